theorem m207_189 {d : Nat} {x1 : Int32} {x2 : Int32} {x3 : Int32} {s0 : Int32} {M : hp} {Q : Option Value → hp → Prop} (F : MF M) : Wp none d 207 189 [(0, .ref 126), (1, .int x1), (2, .int x2), (3, .int x3)] [.int s0, .ref 126] M Q = Wp none d 191 0 [(0, .ref 126), (1, .int s0)] [] M (fun r M1 => Wp none d 207 192 [(0, .ref 126), (1, .int x1), (2, .int x2), (3, .int x3)] (r.toList ++ []) M1 Q) := by
  rw [k207_189 (x0 := 126) (s1 := 126) F.1]
theorem m207_213 {d : Nat} {x1 : Int32} {x2 : Int32} {x3 : Int32} {s0 : Int32} {s2 : Nat} {M : hp} {Q : Option Value → hp → Prop} (F : MF M) : Wp none d 207 213 [(0, .ref 126), (1, .int x1), (2, .int x2), (3, .int x3)] [.int s0, .ref 126, .ref s2] M Q = Wp none d 191 0 [(0, .ref 126), (1, .int s0)] [] M (fun r M1 => Wp none d 207 216 [(0, .ref 126), (1, .int x1), (2, .int x2), (3, .int x3)] (r.toList ++ [.ref s2]) M1 Q) := by
  rw [k207_213 (x0 := 126) (s1 := 126) F.1]
theorem m207_224 {d : Nat} {x1 : Int32} {x2 : Int32} {x3 : Int32} {s0 : Int32} {M : hp} {Q : Option Value → hp → Prop} (F : MF M) : Wp none d 207 224 [(0, .ref 126), (1, .int x1), (2, .int x2), (3, .int x3)] [.int s0, .ref 126] M Q = Wp none d 192 0 [(0, .ref 126), (1, .int s0)] [] M (fun r M1 => Wp none d 207 227 [(0, .ref 126), (1, .int x1), (2, .int x2), (3, .int x3)] (r.toList ++ []) M1 Q) := by
  rw [k207_224 (x0 := 126) (s1 := 126) F.1]
theorem m207_227 {d : Nat} {x1 : Int32} {x2 : Int32} {x3 : Int32} {M : hp} {Q : Option Value → hp → Prop} (F : MF M) : Wp none d 207 227 [(0, .ref 126), (1, .int x1), (2, .int x2), (3, .int x3)] [] M Q = Wp none d 207 231 [(0, .ref 126), (1, .int x1), (2, .int x2), (3, .int x3)] [.int (hI M 126 19)] M Q := by
  rw [k207_227 (x0 := 126) F.1]
theorem m207_236 {d : Nat} {x1 : Int32} {x2 : Int32} {x3 : Int32} {s0 : Int32} {M : hp} {Q : Option Value → hp → Prop} (F : MF M) : Wp none d 207 236 [(0, .ref 126), (1, .int x1), (2, .int x2), (3, .int x3)] [.int s0, .ref 126] M Q = Wp none d 198 0 [(0, .ref 126), (1, .int s0)] [] M (fun r M1 => Wp none d 207 239 [(0, .ref 126), (1, .int x1), (2, .int x2), (3, .int x3)] (r.toList ++ []) M1 Q) := by
  rw [k207_236 (x0 := 126) (s1 := 126) F.1]
theorem m207_242 {d : Nat} {x1 : Int32} {x2 : Int32} {x3 : Int32} {s0 : Int32} {s1 : Int32} {M : hp} {Q : Option Value → hp → Prop} (F : MF M) : Wp none d 207 242 [(0, .ref 126), (1, .int x1), (2, .int x2), (3, .int x3)] [.int s0, .int s1, .ref 126] M Q = Wp none d 196 0 [(0, .ref 126), (1, .int s1), (2, .int s0)] [] M (fun r M1 => Wp none d 207 245 [(0, .ref 126), (1, .int x1), (2, .int x2), (3, .int x3)] (r.toList ++ []) M1 Q) := by
  rw [k207_242 (x0 := 126) (s2 := 126) F.1]
theorem m208_4 {d : Nat} {s0 : Int64} {M : hp} {Q : Option Value → hp → Prop} (F : MF M) : Wp none d 208 4 [(0, .ref 126)] [.long s0, .ref 126] M Q = Wp none d 190 0 [(0, .ref 126), (1, .long s0)] [] M (fun r M1 => Wp none d 208 7 [(0, .ref 126)] (r.toList ++ []) M1 Q) := by
  rw [k208_4 (x0 := 126) (s1 := 126) F.1]
theorem m208_16 {d : Nat} {x1 : Int32} {s0 : Int64} {M : hp} {Q : Option Value → hp → Prop} (F : MF M) : Wp none d 208 16 [(0, .ref 126), (1, .int x1)] [.long s0, .ref 126] M Q = Wp none d 190 0 [(0, .ref 126), (1, .long s0)] [] M (fun r M1 => Wp none d 208 19 [(0, .ref 126), (1, .int x1)] (r.toList ++ []) M1 Q) := by
  rw [k208_16 (x0 := 126) (s1 := 126) F.1]
theorem m208_32 {d : Nat} {x1 : Int32} {s0 : Int32} {M : hp} {Q : Option Value → hp → Prop} (F : MF M) : Wp none d 208 32 [(0, .ref 126), (1, .int x1)] [.int s0, .ref 126] M Q = Wp none d 198 0 [(0, .ref 126), (1, .int s0)] [] M (fun r M1 => Wp none d 208 35 [(0, .ref 126), (1, .int x1)] (r.toList ++ []) M1 Q) := by
  rw [k208_32 (x0 := 126) (s1 := 126) F.1]
theorem m208_47 {d : Nat} {x1 : Int32} {s0 : Int32} {s1 : Nat} {M : hp} {Q : Option Value → hp → Prop} (F : MF M) : Wp none d 208 47 [(0, .ref 126), (1, .int x1)] [.int s0, .ref s1] M Q = Wp none d 208 51 [(0, .ref 126), (1, .int x1)] [.int (hI M 126 23), .int s0, .ref s1] M Q := by
  rw [k208_47 (x0 := 126) F.1]
theorem m208_51 {d : Nat} {x1 : Int32} {s0 : Int32} {s1 : Int32} {M : hp} {Q : Option Value → hp → Prop} (F : MF M) : Wp none d 208 51 [(0, .ref 126), (1, .int x1)] [.int s0, .int s1, .ref 126] M Q = Wp none d 196 0 [(0, .ref 126), (1, .int s1), (2, .int s0)] [] M (fun r M1 => Wp none d 208 54 [(0, .ref 126), (1, .int x1)] (r.toList ++ []) M1 Q) := by
  rw [k208_51 (x0 := 126) (s2 := 126) F.1]
theorem m208_67 {d : Nat} {x1 : Int32} {s0 : Int32} {s1 : Int32} {M : hp} {Q : Option Value → hp → Prop} (F : MF M) : Wp none d 208 67 [(0, .ref 126), (1, .int x1)] [.int s0, .int s1, .ref 126] M Q = Wp none d 195 0 [(0, .ref 126), (1, .int s1), (2, .int s0)] [] M (fun r M1 => Wp none d 208 70 [(0, .ref 126), (1, .int x1)] (r.toList ++ []) M1 Q) := by
  rw [k208_67 (x0 := 126) (s2 := 126) F.1]
theorem m208_71 {d : Nat} {x1 : Int32} {M : hp} {Q : Option Value → hp → Prop} (F : MF M) : Wp none d 208 71 [(0, .ref 126), (1, .int x1)] [.ref 126] M Q = Wp none d 189 0 [(0, .ref 126)] [] M (fun r M1 => Wp none d 208 74 [(0, .ref 126), (1, .int x1)] (r.toList ++ []) M1 Q) := by
  rw [k208_71 (x0 := 126) (s0 := 126) F.1]
theorem m208_77 {d : Nat} {x1 : Int32} {M : hp} {Q : Option Value → hp → Prop} (F : MF M) : Wp none d 208 77 [(0, .ref 126), (1, .int x1)] [.ref 126] M Q = Wp none d 199 0 [(0, .ref 126)] [] M (fun r M1 => Wp none d 208 80 [(0, .ref 126), (1, .int x1)] (r.toList ++ []) M1 Q) := by
  rw [k208_77 (x0 := 126) (s0 := 126) F.1]
theorem m208_90 {d : Nat} {x1 : Int32} {s0 : Int32} {s2 : Nat} {M : hp} {Q : Option Value → hp → Prop} (F : MF M) : Wp none d 208 90 [(0, .ref 126), (1, .int x1)] [.int s0, .ref 126, .ref s2] M Q = Wp none d 191 0 [(0, .ref 126), (1, .int s0)] [] M (fun r M1 => Wp none d 208 93 [(0, .ref 126), (1, .int x1)] (r.toList ++ [.ref s2]) M1 Q) := by
  rw [k208_90 (x0 := 126) (s1 := 126) F.1]
theorem m208_93 {d : Nat} {x1 : Int32} {s0 : Int32} {M : hp} {Q : Option Value → hp → Prop} (F : MF M) : Wp none d 208 93 [(0, .ref 126), (1, .int x1)] [.int s0, .ref 126] M Q = Wp none d 192 0 [(0, .ref 126), (1, .int s0)] [] M (fun r M1 => Wp none d 208 96 [(0, .ref 126), (1, .int x1)] (r.toList ++ []) M1 Q) := by
  rw [k208_93 (x0 := 126) (s1 := 126) F.1]
theorem m208_96 {d : Nat} {x1 : Int32} {M : hp} {Q : Option Value → hp → Prop} (F : MF M) : Wp none d 208 96 [(0, .ref 126), (1, .int x1)] [] M Q = Wp none d 208 100 [(0, .ref 126), (1, .int x1)] [.int (hI M 126 19)] M Q := by
  rw [k208_96 (x0 := 126) F.1]
theorem m208_105 {d : Nat} {x1 : Int32} {s0 : Int32} {M : hp} {Q : Option Value → hp → Prop} (F : MF M) : Wp none d 208 105 [(0, .ref 126), (1, .int x1)] [.int s0, .ref 126] M Q = Wp none d 198 0 [(0, .ref 126), (1, .int s0)] [] M (fun r M1 => Wp none d 208 108 [(0, .ref 126), (1, .int x1)] (r.toList ++ []) M1 Q) := by
  rw [k208_105 (x0 := 126) (s1 := 126) F.1]
theorem m208_108 {d : Nat} {x1 : Int32} {M : hp} {Q : Option Value → hp → Prop} (F : MF M) : Wp none d 208 108 [(0, .ref 126), (1, .int x1)] [] M Q = Wp none d 208 118 [(0, .ref 126), (1, .int x1)] [] (sI M 126 29 ((hI M 126 29) - 1)) Q := by
  rw [k208_108 (x0 := 126) F.1]
theorem m208_118 {d : Nat} {x1 : Int32} {M : hp} {Q : Option Value → hp → Prop} (F : MF M) : Wp none d 208 118 [(0, .ref 126), (1, .int x1)] [] M Q = Wp none d 208 128 [(0, .ref 126), (1, .int x1)] [] (sI M 126 30 ((hI M 126 30) - 1)) Q := by
  rw [k208_118 (x0 := 126) F.1]
theorem m209_0 {d : Nat} {x1 : Int32} {M : hp} {Q : Option Value → hp → Prop} (F : MF M) : Wp none d 209 0 [(0, .ref 126), (1, .int x1)] [] M Q = Wp none d 209 5 [(0, .ref 126), (1, .int x1)] [] (sI M 126 29 0) Q := by
  rw [k209_0 (x0 := 126) F.1]
theorem m209_5 {d : Nat} {x1 : Int32} {M : hp} {Q : Option Value → hp → Prop} (F : MF M) : Wp none d 209 5 [(0, .ref 126), (1, .int x1)] [] M Q = Wp none d 209 10 [(0, .ref 126), (1, .int x1)] [] (sI M 126 30 0) Q := by
  rw [k209_5 (x0 := 126) F.1]
theorem m209_20 {d : Nat} {x1 : Int32} {x2 : Int32} {M : hp} {Q : Option Value → hp → Prop} (F : MF M) : Wp none d 209 20 [(0, .ref 126), (1, .int x1), (2, .int x2)] [] M Q = Wp none d 209 24 [(0, .ref 126), (1, .int x1), (2, .int x2)] [.int (hI M 126 19)] M Q := by
  rw [k209_20 (x0 := 126) F.1]
theorem m209_37 {d : Nat} {x1 : Int32} {x2 : Int32} {M : hp} {Q : Option Value → hp → Prop} (F : MF M) : Wp none d 209 37 [(0, .ref 126), (1, .int x1), (2, .int x2)] [.ref 126] M Q = Wp none d 206 0 [(0, .ref 126)] [] M (fun r M1 => Wp none d 209 40 [(0, .ref 126), (1, .int x1), (2, .int x2)] (r.toList ++ []) M1 Q) := by
  rw [k209_37 (x0 := 126) (s0 := 126) F.1]
theorem m209_49 {d : Nat} {x1 : Int32} {x2 : Int32} {M : hp} {Q : Option Value → hp → Prop} (F : MF M) : Wp none d 209 49 [(0, .ref 126), (1, .int x1), (2, .int x2)] [.ref 126] M Q = Wp none d 205 0 [(0, .ref 126)] [] M (fun r M1 => Wp none d 209 52 [(0, .ref 126), (1, .int x1), (2, .int x2)] (r.toList ++ []) M1 Q) := by
  rw [k209_49 (x0 := 126) (s0 := 126) F.1]
theorem m209_62 {d : Nat} {x1 : Int32} {x2 : Int32} {s0 : Int32} {M : hp} {Q : Option Value → hp → Prop} (F : MF M) : Wp none d 209 62 [(0, .ref 126), (1, .int x1), (2, .int x2)] [.int s0, .ref 126] M Q = Wp none d 207 0 [(0, .ref 126), (1, .int s0)] [] M (fun r M1 => Wp none d 209 65 [(0, .ref 126), (1, .int x1), (2, .int x2)] (r.toList ++ []) M1 Q) := by
  rw [k209_62 (x0 := 126) (s1 := 126) F.1]
theorem m209_69 {d : Nat} {x1 : Int32} {x2 : Int32} {M : hp} {Q : Option Value → hp → Prop} (F : MF M) : Wp none d 209 69 [(0, .ref 126), (1, .int x1), (2, .int x2)] [.ref 126] M Q = Wp none d 208 0 [(0, .ref 126)] [] M (fun r M1 => Wp none d 209 72 [(0, .ref 126), (1, .int x1), (2, .int x2)] (r.toList ++ []) M1 Q) := by
  rw [k209_69 (x0 := 126) (s0 := 126) F.1]
theorem m209_78 {d : Nat} {x1 : Int32} {x2 : Int32} {s0 : Int32} {M : hp} {Q : Option Value → hp → Prop} (F : MF M) : Wp none d 209 78 [(0, .ref 126), (1, .int x1), (2, .int x2)] [.int s0, .ref 126] M Q = Wp none d 198 0 [(0, .ref 126), (1, .int s0)] [] M (fun r M1 => Wp none d 209 81 [(0, .ref 126), (1, .int x1), (2, .int x2)] (r.toList ++ []) M1 Q) := by
  rw [k209_78 (x0 := 126) (s1 := 126) F.1]
theorem m210_0 {d : Nat} {x1 : Int32} {M : hp} {Q : Option Value → hp → Prop} (F : MF M) (h2 : x1 = 0 ∨ x1 = 1) : Wp none d 210 0 [(0, .ref 126), (1, .int x1)] [] M Q = Wp none d 210 5 [(0, .ref 126), (1, .int x1)] [] (sI M 126 20 x1) Q := by
  rw [k210_0 (x0 := 126) F.1 h2]
theorem m210_6 {d : Nat} {x1 : Int32} {M : hp} {Q : Option Value → hp → Prop} (F : MF M) : Wp none d 210 6 [(0, .ref 126), (1, .int x1)] [.ref 126] M Q = Wp none d 188 0 [(0, .ref 126)] [] M (fun r M1 => Wp none d 210 9 [(0, .ref 126), (1, .int x1)] (r.toList ++ []) M1 Q) := by
  rw [k210_6 (x0 := 126) (s0 := 126) F.1]
theorem m210_9 {d : Nat} {x1 : Int32} {M : hp} {Q : Option Value → hp → Prop} (F : MF M) : Wp none d 210 9 [(0, .ref 126), (1, .int x1)] [] M Q = Wp none d 210 14 [(0, .ref 126), (1, .int x1)] [] (sI M 126 21 0) Q := by
  rw [k210_9 (x0 := 126) F.1]
theorem m210_14 {d : Nat} {x1 : Int32} {M : hp} {Q : Option Value → hp → Prop} (F : MF M) : Wp none d 210 14 [(0, .ref 126), (1, .int x1)] [] M Q = Wp none d 210 19 [(0, .ref 126), (1, .int x1)] [] (sI M 126 23 0) Q := by
  rw [k210_14 (x0 := 126) F.1]
theorem m210_19 {d : Nat} {x1 : Int32} {M : hp} {Q : Option Value → hp → Prop} (F : MF M) : Wp none d 210 19 [(0, .ref 126), (1, .int x1)] [] M Q = Q none (sI M 126 26 0) := by
  rw [k210_19 (x0 := 126) F.1]
theorem m211_0 {d : Nat} {M : hp} {Q : Option Value → hp → Prop} (F : MF M) : Wp none d 211 0 [(0, .ref 126)] [] M Q = Wp none d 211 4 [(0, .ref 126)] [.int (hI M 126 19)] M Q := by
  rw [k211_0 (x0 := 126) F.1]
theorem m211_7 {d : Nat} {M : hp} {Q : Option Value → hp → Prop} (F : MF M) : Wp none d 211 7 [(0, .ref 126)] [] M Q = Wp none d 211 11 [(0, .ref 126)] [.int (hI M 126 16)] M Q := by
  rw [k211_7 (x0 := 126) F.1]
theorem m211_16 {d : Nat} {s0 : Int32} {M : hp} {Q : Option Value → hp → Prop} (F : MF M) : Wp none d 211 16 [(0, .ref 126)] [.int s0, .ref 126] M Q = Wp none d 192 0 [(0, .ref 126), (1, .int s0)] [] M (fun r M1 => Wp none d 211 19 [(0, .ref 126)] (r.toList ++ []) M1 Q) := by
  rw [k211_16 (x0 := 126) (s1 := 126) F.1]
theorem m211_19 {d : Nat} {M : hp} {Q : Option Value → hp → Prop} (F : MF M) : Wp none d 211 19 [(0, .ref 126)] [] M Q = Wp none d 211 24 [(0, .ref 126)] [] (sI M 126 20 0) Q := by
  rw [k211_19 (x0 := 126) F.1]
theorem m211_24 {d : Nat} {M : hp} {Q : Option Value → hp → Prop} (F : MF M) : Wp none d 211 24 [(0, .ref 126)] [] M Q = Q none (sI M 126 13 0) := by
  rw [k211_24 (x0 := 126) F.1]
theorem m212_9 {d : Nat} {x1 : Int32} {x2 : Int32} {M : hp} {Q : Option Value → hp → Prop} (F : MF M) (h4 : vin x2 3 = true) : Wp none d 212 9 [(0, .ref 126), (1, .int x1), (2, .int x2)] [] M Q = Wp none d 212 16 [(0, .ref 126), (1, .int x1), (2, .int x2)] [.long (hL M 143 x2.toNatClampNeg), .ref 126] M Q := by
  rw [k212_9 (x0 := 126) F.1 (by rw [m_R33 F]; decide) (by rw [m_R33 F, m_K143 F]) (by rw [m_R33 F, m_K143 F]; exact h4)]
  simp only [m_R33 F]
theorem m212_16 {d : Nat} {x1 : Int32} {x2 : Int32} {s0 : Int64} {M : hp} {Q : Option Value → hp → Prop} (F : MF M) : Wp none d 212 16 [(0, .ref 126), (1, .int x1), (2, .int x2)] [.long s0, .ref 126] M Q = Wp none d 190 0 [(0, .ref 126), (1, .long s0)] [] M (fun r M1 => Wp none d 212 19 [(0, .ref 126), (1, .int x1), (2, .int x2)] (r.toList ++ []) M1 Q) := by
  rw [k212_16 (x0 := 126) (s1 := 126) F.1]
theorem m212_40 {d : Nat} {x1 : Int32} {x2 : Int32} {s0 : Nat} {M : hp} {Q : Option Value → hp → Prop} (F : MF M) : Wp none d 212 40 [(0, .ref 126), (1, .int x1), (2, .int x2)] [.ref s0] M Q = Wp none d 212 46 [(0, .ref 126), (1, .int x1), (2, .int x2)] [.int 12, .int (hI M 126 21), .ref s0] M Q := by
  rw [k212_40 (x0 := 126) F.1]
theorem m212_54 {d : Nat} {x1 : Int32} {x2 : Int32} {s0 : Int32} {M : hp} {Q : Option Value → hp → Prop} (F : MF M) : Wp none d 212 54 [(0, .ref 126), (1, .int x1), (2, .int x2)] [.int s0, .ref 126] M Q = Wp none d 192 0 [(0, .ref 126), (1, .int s0)] [] M (fun r M1 => Wp none d 212 57 [(0, .ref 126), (1, .int x1), (2, .int x2)] (r.toList ++ []) M1 Q) := by
  rw [k212_54 (x0 := 126) (s1 := 126) F.1]
theorem m212_57 {d : Nat} {x1 : Int32} {x2 : Int32} {M : hp} {Q : Option Value → hp → Prop} (F : MF M) : Wp none d 212 57 [(0, .ref 126), (1, .int x1), (2, .int x2)] [] M Q = Wp none d 212 61 [(0, .ref 126), (1, .int x1), (2, .int x2)] [.int (hI M 126 19)] M Q := by
  rw [k212_57 (x0 := 126) F.1]
theorem m212_65 {d : Nat} {x1 : Int32} {x2 : Int32} {M : hp} {Q : Option Value → hp → Prop} (F : MF M) : Wp none d 212 65 [(0, .ref 126), (1, .int x1), (2, .int x2)] [] M Q = Wp none d 212 75 [(0, .ref 126), (1, .int x1), (2, .int (8 * (hI M 126 21))), (3, .int 0)] [] M Q := by
  rw [k212_65 (x0 := 126) F.1]
theorem m212_81 {d : Nat} {x1 : Int32} {x2 : Int32} {x3 : Int32} {M : hp} {Q : Option Value → hp → Prop} (F : MF M) (h4 : vin (x2 + x3) 96 = true) : Wp none d 212 81 [(0, .ref 126), (1, .int x1), (2, .int x2), (3, .int x3)] [] M Q = Wp none d 212 90 [(0, .ref 126), (1, .int x1), (2, .int x2), (3, .int x3)] [] (sI M 136 (x2 + x3).toNatClampNeg 0) Q := by
  rw [k212_81 (x0 := 126) F.1 (by rw [m_R22 F]; decide) (by rw [m_R22 F, m_K136 F]) (by rw [m_R22 F, m_K136 F]; exact h4)]
  simp only [m_R22 F]
theorem m212_96 {d : Nat} {x1 : Int32} {x2 : Int32} {x3 : Int32} {M : hp} {Q : Option Value → hp → Prop} (F : MF M) (h4 : vin x2 96 = true) : Wp none d 212 96 [(0, .ref 126), (1, .int x1), (2, .int x2), (3, .int x3)] [] M Q = Wp none d 212 103 [(0, .ref 126), (1, .int x1), (2, .int x2), (3, .int x3)] [] (sI M 136 x2.toNatClampNeg x1) Q := by
  rw [k212_96 (x0 := 126) F.1 (by rw [m_R22 F]; decide) (by rw [m_R22 F, m_K136 F]) (by rw [m_R22 F, m_K136 F]; exact h4)]
  simp only [m_R22 F]
theorem m212_103 {d : Nat} {x1 : Int32} {x2 : Int32} {x3 : Int32} {M : hp} {Q : Option Value → hp → Prop} (F : MF M) : Wp none d 212 103 [(0, .ref 126), (1, .int x1), (2, .int x2), (3, .int x3)] [] M Q = Wp none d 212 113 [(0, .ref 126), (1, .int x1), (2, .int x2), (3, .int x3)] [] (sI M 126 21 ((hI M 126 21) + 1)) Q := by
  rw [k212_103 (x0 := 126) F.1]
theorem m212_113 {d : Nat} {x1 : Int32} {x2 : Int32} {x3 : Int32} {M : hp} {Q : Option Value → hp → Prop} (F : MF M) (h4 : vin (x2 + 3) 96 = true) : Wp none d 212 113 [(0, .ref 126), (1, .int x1), (2, .int x2), (3, .int x3)] [] M Q = Wp none d 212 125 [(0, .ref 126), (1, .int x1), (2, .int x2), (3, .int x3)] [] (sI M 136 (x2 + 3).toNatClampNeg (hI M 126 23)) Q := by
  rw [k212_113 (x0 := 126) F.1 (by rw [m_R22 F]; decide) (by rw [m_R22 F, m_K136 F]) (by rw [m_R22 F, m_K136 F]; exact h4)]
  simp only [m_R22 F]
theorem m212_132 {d : Nat} {x1 : Int32} {x2 : Int32} {x3 : Int32} {s0 : Int32} {M : hp} {Q : Option Value → hp → Prop} (F : MF M) : Wp none d 212 132 [(0, .ref 126), (1, .int x1), (2, .int x2), (3, .int x3)] [.int s0, .ref 126] M Q = Wp none d 209 0 [(0, .ref 126), (1, .int s0)] [] M (fun r M1 => Wp none d 212 135 [(0, .ref 126), (1, .int x1), (2, .int x2), (3, .int x3)] (r.toList ++ []) M1 Q) := by
  rw [k212_132 (x0 := 126) (s1 := 126) F.1]
theorem m212_135 {d : Nat} {x1 : Int32} {x2 : Int32} {x3 : Int32} {M : hp} {Q : Option Value → hp → Prop} (F : MF M) (h4 : vin (x2 + 4) 96 = true) : Wp none d 212 135 [(0, .ref 126), (1, .int x1), (2, .int x2), (3, .int x3)] [] M Q = Wp none d 212 147 [(0, .ref 126), (1, .int x1), (2, .int x2), (3, .int x3)] [] (sI M 136 (x2 + 4).toNatClampNeg (hI M 126 23)) Q := by
  rw [k212_135 (x0 := 126) F.1 (by rw [m_R22 F]; decide) (by rw [m_R22 F, m_K136 F]) (by rw [m_R22 F, m_K136 F]; exact h4)]
  simp only [m_R22 F]
theorem m212_147 {d : Nat} {x1 : Int32} {x2 : Int32} {x3 : Int32} {M : hp} {Q : Option Value → hp → Prop} (F : MF M) (h4 : vin (x2 + 5) 96 = true) : Wp none d 212 147 [(0, .ref 126), (1, .int x1), (2, .int x2), (3, .int x3)] [] M Q = Wp none d 212 159 [(0, .ref 126), (1, .int x1), (2, .int x2), (3, .int x3)] [] (sI M 136 (x2 + 5).toNatClampNeg (hI M 126 23)) Q := by
  rw [k212_147 (x0 := 126) F.1 (by rw [m_R22 F]; decide) (by rw [m_R22 F, m_K136 F]) (by rw [m_R22 F, m_K136 F]; exact h4)]
  simp only [m_R22 F]
theorem m212_159 {d : Nat} {x1 : Int32} {x2 : Int32} {x3 : Int32} {M : hp} {Q : Option Value → hp → Prop} (F : MF M) : Wp none d 212 159 [(0, .ref 126), (1, .int x1), (2, .int x2), (3, .int x3)] [] M Q = Wp none d 212 163 [(0, .ref 126), (1, .int x1), (2, .int x2), (3, .int x3)] [.int (hI M 126 19)] M Q := by
  rw [k212_159 (x0 := 126) F.1]
theorem m212_170 {d : Nat} {x1 : Int32} {x2 : Int32} {x3 : Int32} {s0 : Int64} {M : hp} {Q : Option Value → hp → Prop} (F : MF M) : Wp none d 212 170 [(0, .ref 126), (1, .int x1), (2, .int x2), (3, .int x3)] [.long s0, .ref 126] M Q = Wp none d 190 0 [(0, .ref 126), (1, .long s0)] [] M (fun r M1 => Wp none d 212 173 [(0, .ref 126), (1, .int x1), (2, .int x2), (3, .int x3)] (r.toList ++ []) M1 Q) := by
  rw [k212_170 (x0 := 126) (s1 := 126) F.1]
theorem m212_177 {d : Nat} {x1 : Int32} {x2 : Int32} {x3 : Int32} {M : hp} {Q : Option Value → hp → Prop} (F : MF M) : Wp none d 212 177 [(0, .ref 126), (1, .int x1), (2, .int x2), (3, .int x3)] [.ref 126] M Q = Wp none d 189 0 [(0, .ref 126)] [] M (fun r M1 => Wp none d 212 180 [(0, .ref 126), (1, .int x1), (2, .int x2), (3, .int x3)] (r.toList ++ []) M1 Q) := by
  rw [k212_177 (x0 := 126) (s0 := 126) F.1]
theorem m212_182 {d : Nat} {x1 : Int32} {x2 : Int32} {x3 : Int32} {s0 : Int32} {M : hp} {Q : Option Value → hp → Prop} (F : MF M) : Wp none d 212 182 [(0, .ref 126), (1, .int x1), (2, .int x2), (3, .int x3)] [.int s0, .ref 126] M Q = Wp none d 209 0 [(0, .ref 126), (1, .int s0)] [] M (fun r M1 => Wp none d 212 185 [(0, .ref 126), (1, .int x1), (2, .int x2), (3, .int x3)] (r.toList ++ []) M1 Q) := by
  rw [k212_182 (x0 := 126) (s1 := 126) F.1]
theorem m212_185 {d : Nat} {x1 : Int32} {x2 : Int32} {x3 : Int32} {M : hp} {Q : Option Value → hp → Prop} (F : MF M) (h4 : vin (x2 + 6) 96 = true) : Wp none d 212 185 [(0, .ref 126), (1, .int x1), (2, .int x2), (3, .int x3)] [] M Q = Q none (sI M 136 (x2 + 6).toNatClampNeg (hI M 126 23)) := by
  rw [k212_185 (x0 := 126) F.1 (by rw [m_R22 F]; decide) (by rw [m_R22 F, m_K136 F]) (by rw [m_R22 F, m_K136 F]; exact h4)]
  simp only [m_R22 F]
theorem m213_0 {d : Nat} {M : hp} {Q : Option Value → hp → Prop} (F : MF M) : Wp none d 213 0 [(0, .ref 126)] [] M Q = Wp none d 213 5 [(0, .ref 126)] [] (sI M 126 0 0) Q := by
  rw [k213_0 (x0 := 126) F.1]
theorem m213_5 {d : Nat} {M : hp} {Q : Option Value → hp → Prop} (F : MF M) (h5 : vin 2 5447 = true) : Wp none d 213 5 [(0, .ref 126)] [] M Q = Wp none d 213 13 [(0, .ref 126)] [.int 6, .int (hI M 128 (2 : Int32).toNatClampNeg)] M Q := by
  rw [k213_5 (x0 := 126) F.1 (by rw [m_R3 F]; decide) (by rw [m_R3 F]; decide) (by rw [m_R3 F, m_K128 F]) (by rw [m_R3 F, m_K128 F]; exact h5)]
  simp only [m_R3 F]
theorem m213_16 {d : Nat} {M : hp} {Q : Option Value → hp → Prop} (F : MF M) : Wp none d 213 16 [(0, .ref 126)] [] M Q = Wp none d 213 21 [(0, .ref 126)] [] (sI M 126 13 0) Q := by
  rw [k213_16 (x0 := 126) F.1]
theorem m213_24 {d : Nat} {s0 : Int32} {M : hp} {Q : Option Value → hp → Prop} (F : MF M) : Wp none d 213 24 [(0, .ref 126)] [.int s0, .ref 126] M Q = Wp none d 156 0 [(0, .ref 126), (1, .int s0)] [] M (fun r M1 => Wp none d 213 27 [(0, .ref 126)] (r.toList ++ []) M1 Q) := by
  rw [k213_24 (x0 := 126) (s1 := 126) F.1]
theorem m213_30 {d : Nat} {s0 : Int32} {M : hp} {Q : Option Value → hp → Prop} (F : MF M) : Wp none d 213 30 [(0, .ref 126)] [.int s0, .ref 126] M Q = Wp none d 210 0 [(0, .ref 126), (1, .int s0)] [] M (fun r M1 => Wp none d 213 33 [(0, .ref 126)] (r.toList ++ []) M1 Q) := by
  rw [k213_30 (x0 := 126) (s1 := 126) F.1]
theorem m213_34 {d : Nat} {M : hp} {Q : Option Value → hp → Prop} (F : MF M) : Wp none d 213 34 [(0, .ref 126)] [.ref 126] M Q = Wp none d 212 0 [(0, .ref 126)] [] M (fun r M1 => Wp none d 213 37 [(0, .ref 126)] (r.toList ++ []) M1 Q) := by
  rw [k213_34 (x0 := 126) (s0 := 126) F.1]
theorem m213_37 {d : Nat} {M : hp} {Q : Option Value → hp → Prop} (F : MF M) : Wp none d 213 37 [(0, .ref 126)] [] M Q = Wp none d 213 41 [(0, .ref 126)] [.int (hI M 126 19)] M Q := by
  rw [k213_37 (x0 := 126) F.1]
theorem m213_47 {d : Nat} {s0 : Int32} {M : hp} {Q : Option Value → hp → Prop} (F : MF M) : Wp none d 213 47 [(0, .ref 126)] [.int s0, .ref 126] M Q = Wp none d 191 0 [(0, .ref 126), (1, .int s0)] [] M (fun r M1 => Wp none d 213 50 [(0, .ref 126)] (r.toList ++ []) M1 Q) := by
  rw [k213_47 (x0 := 126) (s1 := 126) F.1]
theorem m213_54 {d : Nat} {M : hp} {Q : Option Value → hp → Prop} (F : MF M) : Wp none d 213 54 [(0, .ref 126)] [.ref 126] M Q = Wp none d 189 0 [(0, .ref 126)] [] M (fun r M1 => Wp none d 213 57 [(0, .ref 126)] (r.toList ++ []) M1 Q) := by
  rw [k213_54 (x0 := 126) (s0 := 126) F.1]
theorem m213_58 {d : Nat} {M : hp} {Q : Option Value → hp → Prop} (F : MF M) : Wp none d 213 58 [(0, .ref 126)] [.ref 126] M Q = Wp none d 212 0 [(0, .ref 126)] [] M (fun r M1 => Wp none d 213 61 [(0, .ref 126)] (r.toList ++ []) M1 Q) := by
  rw [k213_58 (x0 := 126) (s0 := 126) F.1]
theorem m213_65 {d : Nat} {M : hp} {Q : Option Value → hp → Prop} (F : MF M) : Wp none d 213 65 [(0, .ref 126)] [.ref 126] M Q = Wp none d 211 0 [(0, .ref 126)] [] M (fun r M1 => Wp none d 213 68 [(0, .ref 126)] (r.toList ++ []) M1 Q) := by
  rw [k213_65 (x0 := 126) (s0 := 126) F.1]
theorem m213_68 {d : Nat} {M : hp} {Q : Option Value → hp → Prop} (F : MF M) : Wp none d 213 68 [(0, .ref 126)] [] M Q = Wp none d 213 72 [(0, .ref 126)] [.int (hI M 126 19)] M Q := by
  rw [k213_68 (x0 := 126) F.1]
theorem m213_78 {d : Nat} {s0 : Int32} {M : hp} {Q : Option Value → hp → Prop} (F : MF M) : Wp none d 213 78 [(0, .ref 126)] [.int s0, .ref 126] M Q = Wp none d 156 0 [(0, .ref 126), (1, .int s0)] [] M (fun r M1 => Wp none d 213 81 [(0, .ref 126)] (r.toList ++ []) M1 Q) := by
  rw [k213_78 (x0 := 126) (s1 := 126) F.1]
theorem m213_82 {d : Nat} {M : hp} {Q : Option Value → hp → Prop} (F : MF M) (h5 : vin 2 5447 = true) (h6 : vin ((47 + (900 * (hI M 128 (2 : Int32).toNatClampNeg))) + 1) 5447 = true) : Wp none d 213 82 [(0, .ref 126)] [] M Q = Wp none d 213 108 [(0, .ref 126), (1, .int (47 + (900 * (hI M 128 (2 : Int32).toNatClampNeg))))] [] (sI M 128 ((47 + (900 * (hI M 128 (2 : Int32).toNatClampNeg))) + 1).toNatClampNeg (hI M 126 21)) Q := by
  rw [k213_82 (x0 := 126) F.1 (by rw [m_R3 F]; decide) (by rw [m_R3 F]; decide) (by rw [m_R3 F, m_K128 F]) (by rw [m_R3 F, m_K128 F]; exact h5) (by rw [m_R3 F, m_K128 F]; exact h6)]
  simp only [m_R3 F]
theorem m213_110 {d : Nat} {x1 : Int32} {x2 : Int32} {M : hp} {Q : Option Value → hp → Prop} (F : MF M) : Wp none d 213 110 [(0, .ref 126), (1, .int x1), (2, .int x2)] [] M Q = Wp none d 213 118 [(0, .ref 126), (1, .int x1), (2, .int x2)] [.int (8 * (hI M 126 21)), .int x2] M Q := by
  rw [k213_110 (x0 := 126) F.1]
theorem m213_121 {d : Nat} {x1 : Int32} {x2 : Int32} {M : hp} {Q : Option Value → hp → Prop} (F : MF M) (h6 : vin x2 96 = true) (h8 : vin ((x1 + 2) + x2) 5447 = true) : Wp none d 213 121 [(0, .ref 126), (1, .int x1), (2, .int x2)] [] M Q = Wp none d 213 137 [(0, .ref 126), (1, .int x1), (2, .int x2)] [] (sI M 128 ((x1 + 2) + x2).toNatClampNeg (hI M 136 x2.toNatClampNeg)) Q := by
  rw [k213_121 (x0 := 126) F.1 (by rw [m_R3 F]; decide) (by rw [m_R22 F]; decide) (by rw [m_R22 F]; decide) (by rw [m_R22 F, m_K136 F]) (by rw [m_R22 F, m_K136 F]; exact h6) (by rw [m_R3 F, m_K128 F]) (by rw [m_R3 F, m_K128 F]; exact h8)]
  simp only [m_R3 F, m_R22 F]
theorem m213_145 {d : Nat} {x1 : Int32} {x2 : Int32} {M : hp} {Q : Option Value → hp → Prop} (F : MF M) : Wp none d 213 145 [(0, .ref 126), (1, .int x1), (2, .int x2)] [] M Q = Wp none d 213 150 [(0, .ref 126), (1, .int x1), (2, .int x2)] [.int (hI M 126 23), .int x2] M Q := by
  rw [k213_145 (x0 := 126) F.1]
theorem m213_153 {d : Nat} {x1 : Int32} {x2 : Int32} {M : hp} {Q : Option Value → hp → Prop} (F : MF M) (h6 : vin x2 400 = true) (h8 : vin ((x1 + 98) + (2 * x2)) 5447 = true) : Wp none d 213 153 [(0, .ref 126), (1, .int x1), (2, .int x2)] [] M Q = Wp none d 213 172 [(0, .ref 126), (1, .int x1), (2, .int x2)] [] (sI M 128 ((x1 + 98) + (2 * x2)).toNatClampNeg (hI M 137 x2.toNatClampNeg)) Q := by
  rw [k213_153 (x0 := 126) F.1 (by rw [m_R3 F]; decide) (by rw [m_R24 F]; decide) (by rw [m_R24 F]; decide) (by rw [m_R24 F, m_K137 F]) (by rw [m_R24 F, m_K137 F]; exact h6) (by rw [m_R3 F, m_K128 F]) (by rw [m_R3 F, m_K128 F]; exact h8)]
  simp only [m_R3 F, m_R24 F]
theorem m213_172 {d : Nat} {x1 : Int32} {x2 : Int32} {M : hp} {Q : Option Value → hp → Prop} (F : MF M) (h6 : vin x2 400 = true) (h8 : vin (((x1 + 98) + (2 * x2)) + 1) 5447 = true) : Wp none d 213 172 [(0, .ref 126), (1, .int x1), (2, .int x2)] [] M Q = Wp none d 213 193 [(0, .ref 126), (1, .int x1), (2, .int x2)] [] (sI M 128 (((x1 + 98) + (2 * x2)) + 1).toNatClampNeg (hI M 138 x2.toNatClampNeg)) Q := by
  rw [k213_172 (x0 := 126) F.1 (by rw [m_R3 F]; decide) (by rw [m_R25 F]; decide) (by rw [m_R25 F]; decide) (by rw [m_R25 F, m_K138 F]) (by rw [m_R25 F, m_K138 F]; exact h6) (by rw [m_R3 F, m_K128 F]) (by rw [m_R3 F, m_K128 F]; exact h8)]
  simp only [m_R3 F, m_R25 F]
theorem m213_199 {d : Nat} {x1 : Int32} {x2 : Int32} {M : hp} {Q : Option Value → hp → Prop} (F : MF M) (h5 : vin 2 5447 = true) : Wp none d 213 199 [(0, .ref 126), (1, .int x1), (2, .int x2)] [] M Q = Wp none d 213 209 [(0, .ref 126), (1, .int x1), (2, .int x2)] [] (sI M 128 (2 : Int32).toNatClampNeg ((hI M 128 (2 : Int32).toNatClampNeg) + 1)) Q := by
  rw [k213_199 (x0 := 126) F.1 (by rw [m_R3 F]; decide) (by rw [m_R3 F]; decide) (by rw [m_R3 F, m_K128 F]) (by rw [m_R3 F, m_K128 F]; exact h5)]
  simp only [m_R3 F]
theorem m213_209 {d : Nat} {x1 : Int32} {x2 : Int32} {M : hp} {Q : Option Value → hp → Prop} (F : MF M) (h5 : vin 2 5447 = true) : Wp none d 213 209 [(0, .ref 126), (1, .int x1), (2, .int x2)] [] M Q = Wp none d 213 218 [(0, .ref 126), (1, .int x1), (2, .int x2)] [.int ((hI M 128 (2 : Int32).toNatClampNeg) - 1), .ref 126] M Q := by
  rw [k213_209 (x0 := 126) F.1 (by rw [m_R3 F]; decide) (by rw [m_R3 F]; decide) (by rw [m_R3 F, m_K128 F]) (by rw [m_R3 F, m_K128 F]; exact h5)]
  simp only [m_R3 F]
theorem m213_218 {d : Nat} {x1 : Int32} {x2 : Int32} {s0 : Int32} {M : hp} {Q : Option Value → hp → Prop} (F : MF M) : Wp none d 213 218 [(0, .ref 126), (1, .int x1), (2, .int x2)] [.int s0, .ref 126] M Q = Wp none d 156 0 [(0, .ref 126), (1, .int s0)] [] M (fun r M1 => Wp none d 213 221 [(0, .ref 126), (1, .int x1), (2, .int x2)] (r.toList ++ []) M1 Q) := by
  rw [k213_218 (x0 := 126) (s1 := 126) F.1]
theorem m214_5 {d : Nat} {x1 : Int32} {M : hp} {Q : Option Value → hp → Prop} (F : MF M) (h5 : vin 2 5447 = true) : Wp none d 214 5 [(0, .ref 126), (1, .int x1)] [] M Q = Wp none d 214 17 [(0, .ref 126), (1, .int x1)] [.long (((hI M 128 (2 : Int32).toNatClampNeg).toInt64) - 1), .long 0, .long x1.toInt64] M Q := by
  rw [k214_5 (x0 := 126) F.1 (by rw [m_R3 F]; decide) (by rw [m_R3 F]; decide) (by rw [m_R3 F, m_K128 F]) (by rw [m_R3 F, m_K128 F]; exact h5)]
  simp only [m_R3 F]
theorem m214_28 {d : Nat} {x1 : Int32} {s0 : Int32} {M : hp} {Q : Option Value → hp → Prop} (F : MF M) (h1 : s0 = 0 ∨ s0 = 1) : Wp none d 214 28 [(0, .ref 126), (1, .int x1)] [.int s0] M Q = Q (some (.int s0)) M := by
  rw [k214_28 (x0 := 126) h1]
theorem m215_0 {d : Nat} {x1 : Int32} {M : hp} {Q : Option Value → hp → Prop} (F : MF M) : Wp none d 215 0 [(0, .ref 126), (1, .int x1)] [] M Q = Wp none d 215 5 [(0, .ref 126), (1, .int x1)] [] (sI M 126 0 0) Q := by
  rw [k215_0 (x0 := 126) F.1]
theorem m215_7 {d : Nat} {x1 : Int32} {s0 : Int32} {M : hp} {Q : Option Value → hp → Prop} (F : MF M) : Wp none d 215 7 [(0, .ref 126), (1, .int x1)] [.int s0, .ref 126] M Q = Wp none d 214 0 [(0, .ref 126), (1, .int s0)] [] M (fun r M1 => Wp none d 215 10 [(0, .ref 126), (1, .int x1)] (r.toList ++ []) M1 Q) := by
  rw [k215_7 (x0 := 126) (s1 := 126) F.1]
theorem m215_16 {d : Nat} {x1 : Int32} {s0 : Int32} {s1 : Int32} {M : hp} {Q : Option Value → hp → Prop} (F : MF M) : Wp none d 215 16 [(0, .ref 126), (1, .int x1)] [.int s0, .int s1, .ref 126] M Q = Wp none d 157 0 [(0, .ref 126), (1, .int s1), (2, .int s0)] [] M (fun r M1 => Wp none d 215 19 [(0, .ref 126), (1, .int x1)] (r.toList ++ []) M1 Q) := by
  rw [k215_16 (x0 := 126) (s2 := 126) F.1]
theorem m215_25 {d : Nat} {x1 : Int32} {s0 : Int32} {M : hp} {Q : Option Value → hp → Prop} (F : MF M) : Wp none d 215 25 [(0, .ref 126), (1, .int x1)] [.int s0, .ref 126] M Q = Wp none d 156 0 [(0, .ref 126), (1, .int s0)] [] M (fun r M1 => Wp none d 215 28 [(0, .ref 126), (1, .int x1)] (r.toList ++ []) M1 Q) := by
  rw [k215_25 (x0 := 126) (s1 := 126) F.1]
theorem m216_72 {d : Nat} {x1 : Int32} {x2 : Int64} {x4 : Int64} {s0 : Int32} {M : hp} {Q : Option Value → hp → Prop} (F : MF M) (h2 : s0 = 0 ∨ s0 = 1) : Wp none d 216 72 [(0, .ref 126), (1, .int x1), (2, .long x2), (4, .long x4)] [.int s0, .ref 126] M Q = Wp none d 216 75 [(0, .ref 126), (1, .int x1), (2, .long x2), (4, .long x4)] [] (sI M 126 38 s0) Q := by
  rw [k216_72 (x0 := 126) (s1 := 126) F.1 h2]
theorem m216_75 {d : Nat} {x1 : Int32} {x2 : Int64} {x4 : Int64} {M : hp} {Q : Option Value → hp → Prop} (F : MF M) : Wp none d 216 75 [(0, .ref 126), (1, .int x1), (2, .long x2), (4, .long x4)] [] M Q = Wp none d 216 79 [(0, .ref 126), (1, .int x1), (2, .long x2), (4, .long x4)] [.int (hI M 126 38)] M Q := by
  rw [k216_75 (x0 := 126) F.1]
theorem m216_86 {d : Nat} {x1 : Int32} {x2 : Int64} {x4 : Int64} {M : hp} {Q : Option Value → hp → Prop} (F : MF M) (h1 : ¬ x4 = 0) : Wp none d 216 86 [(0, .ref 126), (1, .int x1), (2, .long x2), (4, .long x4)] [] M Q = Wp none d 216 90 [(0, .ref 126), (1, .int x1), (2, .long x2), (4, .long x4)] [.long (x2 / x4)] M Q := by
  rw [k216_86 (x0 := 126) h1]
theorem m216_104 {d : Nat} {x1 : Int32} {x2 : Int64} {x4 : Int64} {s0 : Int32} {M : hp} {Q : Option Value → hp → Prop} (F : MF M) (h2 : s0 = 0 ∨ s0 = 1) : Wp none d 216 104 [(0, .ref 126), (1, .int x1), (2, .long x2), (4, .long x4)] [.int s0, .ref 126] M Q = Wp none d 216 107 [(0, .ref 126), (1, .int x1), (2, .long x2), (4, .long x4)] [] (sI M 126 38 s0) Q := by
  rw [k216_104 (x0 := 126) (s1 := 126) F.1 h2]
theorem m216_107 {d : Nat} {x1 : Int32} {x2 : Int64} {x4 : Int64} {M : hp} {Q : Option Value → hp → Prop} (F : MF M) : Wp none d 216 107 [(0, .ref 126), (1, .int x1), (2, .long x2), (4, .long x4)] [] M Q = Wp none d 216 111 [(0, .ref 126), (1, .int x1), (2, .long x2), (4, .long x4)] [.int (hI M 126 38)] M Q := by
  rw [k216_107 (x0 := 126) F.1]
theorem m216_118 {d : Nat} {x1 : Int32} {x2 : Int64} {x4 : Int64} {M : hp} {Q : Option Value → hp → Prop} (F : MF M) (h1 : ¬ x4 = 0) : Wp none d 216 118 [(0, .ref 126), (1, .int x1), (2, .long x2), (4, .long x4)] [] M Q = Wp none d 216 122 [(0, .ref 126), (1, .int x1), (2, .long x2), (4, .long x4)] [.long (x2 - x2 / x4 * x4)] M Q := by
  rw [k216_118 (x0 := 126) h1]
theorem m217_0 {d : Nat} {x1 : Int32} {x2 : Int32} {M : hp} {Q : Option Value → hp → Prop} (F : MF M) : Wp none d 217 0 [(0, .ref 126), (1, .int x1), (2, .int x2)] [] M Q = Wp none d 217 5 [(0, .ref 126), (1, .int x1), (2, .int x2)] [] (sI M 126 38 0) Q := by
  rw [k217_0 (x0 := 126) F.1]
theorem m217_16 {d : Nat} {x1 : Int32} {x2 : Int32} {x3 : Int32} {x4 : Int32} {M : hp} {Q : Option Value → hp → Prop} (F : MF M) : Wp none d 217 16 [(0, .ref 126), (1, .int x1), (2, .int x2), (3, .int x3), (4, .int x4)] [] M Q = Wp none d 217 20 [(0, .ref 126), (1, .int x1), (2, .int x2), (3, .int x3), (4, .int x4)] [.int (hI M 126 38)] M Q := by
  rw [k217_16 (x0 := 126) F.1]
theorem m217_23 {d : Nat} {x1 : Int32} {x2 : Int32} {x3 : Int32} {x4 : Int32} {M : hp} {Q : Option Value → hp → Prop} (F : MF M) : Wp none d 217 23 [(0, .ref 126), (1, .int x1), (2, .int x2), (3, .int x3), (4, .int x4)] [] M Q = Wp none d 217 27 [(0, .ref 126), (1, .int x1), (2, .int x2), (3, .int x3), (4, .int x4)] [.int (hI M 126 20)] M Q := by
  rw [k217_23 (x0 := 126) F.1]
theorem m217_30 {d : Nat} {x1 : Int32} {x2 : Int32} {x3 : Int32} {x4 : Int32} {M : hp} {Q : Option Value → hp → Prop} (F : MF M) (h5 : vin x4 400 = true) : Wp none d 217 30 [(0, .ref 126), (1, .int x1), (2, .int x2), (3, .int x3), (4, .int x4)] [] M Q = Wp none d 217 57 [(0, .ref 126), (1, .int x1), (2, .int x2), (3, .int x3), (4, .int x4)] [.int (hI M 137 x4.toNatClampNeg)] M Q := by
  rw [k217_30 (x0 := 126) F.1 (by rw [m_R24 F]; decide) (by rw [m_R24 F]; decide) (by rw [m_R24 F, m_K137 F]) (by rw [m_R24 F, m_K137 F]; exact h5)]
  simp only [m_R24 F]
theorem m217_40 {d : Nat} {x1 : Int32} {x2 : Int32} {x3 : Int32} {x4 : Int32} {M : hp} {Q : Option Value → hp → Prop} (F : MF M) (h5 : vin (((hI M 126 34) + 98) + (2 * x4)) 5447 = true) : Wp none d 217 40 [(0, .ref 126), (1, .int x1), (2, .int x2), (3, .int x3), (4, .int x4)] [] M Q = Wp none d 217 57 [(0, .ref 126), (1, .int x1), (2, .int x2), (3, .int x3), (4, .int x4)] [.int (hI M 128 (((hI M 126 34) + 98) + (2 * x4)).toNatClampNeg)] M Q := by
  rw [k217_40 (x0 := 126) F.1 (by rw [m_R3 F]; decide) (by rw [m_R3 F]; decide) (by rw [m_R3 F, m_K128 F]) (by rw [m_R3 F, m_K128 F]; exact h5)]
  simp only [m_R3 F]
theorem m217_57 {d : Nat} {x1 : Int32} {x2 : Int32} {x3 : Int32} {x4 : Int32} {s0 : Int32} {M : hp} {Q : Option Value → hp → Prop} (F : MF M) : Wp none d 217 57 [(0, .ref 126), (1, .int x1), (2, .int x2), (3, .int x3), (4, .int x4)] [.int s0] M Q = Wp none d 217 63 [(0, .ref 126), (1, .int x1), (2, .int x2), (3, .int x3), (4, .int x4), (5, .int s0)] [.int (hI M 126 20)] M Q := by
  rw [k217_57 (x0 := 126) F.1]
theorem m217_66 {d : Nat} {x1 : Int32} {x2 : Int32} {x3 : Int32} {x4 : Int32} {x5 : Int32} {M : hp} {Q : Option Value → hp → Prop} (F : MF M) (h5 : vin x4 400 = true) : Wp none d 217 66 [(0, .ref 126), (1, .int x1), (2, .int x2), (3, .int x3), (4, .int x4), (5, .int x5)] [] M Q = Wp none d 217 95 [(0, .ref 126), (1, .int x1), (2, .int x2), (3, .int x3), (4, .int x4), (5, .int x5)] [.int (hI M 138 x4.toNatClampNeg)] M Q := by
  rw [k217_66 (x0 := 126) F.1 (by rw [m_R25 F]; decide) (by rw [m_R25 F]; decide) (by rw [m_R25 F, m_K138 F]) (by rw [m_R25 F, m_K138 F]; exact h5)]
  simp only [m_R25 F]
theorem m217_76 {d : Nat} {x1 : Int32} {x2 : Int32} {x3 : Int32} {x4 : Int32} {x5 : Int32} {M : hp} {Q : Option Value → hp → Prop} (F : MF M) (h5 : vin ((((hI M 126 34) + 98) + (2 * x4)) + 1) 5447 = true) : Wp none d 217 76 [(0, .ref 126), (1, .int x1), (2, .int x2), (3, .int x3), (4, .int x4), (5, .int x5)] [] M Q = Wp none d 217 95 [(0, .ref 126), (1, .int x1), (2, .int x2), (3, .int x3), (4, .int x4), (5, .int x5)] [.int (hI M 128 ((((hI M 126 34) + 98) + (2 * x4)) + 1).toNatClampNeg)] M Q := by
  rw [k217_76 (x0 := 126) F.1 (by rw [m_R3 F]; decide) (by rw [m_R3 F]; decide) (by rw [m_R3 F, m_K128 F]) (by rw [m_R3 F, m_K128 F]; exact h5)]
  simp only [m_R3 F]
theorem m217_107 {d : Nat} {x1 : Int32} {x2 : Int32} {x3 : Int32} {x4 : Int32} {x5 : Int32} {x6 : Int32} {M : hp} {Q : Option Value → hp → Prop} (F : MF M) : Wp none d 217 107 [(0, .ref 126), (1, .int x1), (2, .int x2), (3, .int x3), (4, .int x4), (5, .int x5), (6, .int x6)] [] M Q = Wp none d 217 114 [(0, .ref 126), (1, .int x1), (2, .int x2), (3, .int x3), (4, .int x4), (5, .int x5), (6, .int x6)] [.int x5, .int x3, .ref 146] M Q := by
  rw [k217_107 (x0 := 126) F.1 (by rw [m_R37 F]; decide)]
  simp only [m_R37 F]
theorem m217_123 {d : Nat} {x1 : Int32} {x2 : Int32} {x3 : Int32} {x4 : Int32} {x5 : Int32} {x6 : Int32} {s0 : Int32} {s1 : Nat} {M : hp} {Q : Option Value → hp → Prop} (F : MF M) : Wp none d 217 123 [(0, .ref 126), (1, .int x1), (2, .int x2), (3, .int x3), (4, .int x4), (5, .int x5), (6, .int x6)] [.int s0, .ref s1] M Q = Wp none d 217 127 [(0, .ref 126), (1, .int x1), (2, .int x2), (3, .int x3), (4, .int x4), (5, .int x5), (6, .int x6)] [.int (hI M 126 20), .int s0, .ref s1] M Q := by
  rw [k217_123 (x0 := 126) F.1]
theorem m217_130 {d : Nat} {x1 : Int32} {x2 : Int32} {x3 : Int32} {x4 : Int32} {x5 : Int32} {x6 : Int32} {s0 : Int32} {s1 : Nat} {M : hp} {Q : Option Value → hp → Prop} (F : MF M) (h4 : vin x5 13 = true) : Wp none d 217 130 [(0, .ref 126), (1, .int x1), (2, .int x2), (3, .int x3), (4, .int x4), (5, .int x5), (6, .int x6)] [.int s0, .ref s1] M Q = Wp none d 217 205 [(0, .ref 126), (1, .int x1), (2, .int x2), (3, .int x3), (4, .int x4), (5, .int x5), (6, .int x6)] [.long (hL M 144 x5.toNatClampNeg), .int s0, .ref s1] M Q := by
  rw [k217_130 (x0 := 126) F.1 (by rw [m_R35 F]; decide) (by rw [m_R35 F, m_K144 F]) (by rw [m_R35 F, m_K144 F]; exact h4)]
  simp only [m_R35 F]
theorem m217_146 {d : Nat} {x1 : Int32} {x2 : Int32} {x3 : Int32} {x4 : Int32} {x5 : Int32} {x6 : Int32} {s0 : Int32} {s1 : Nat} {M : hp} {Q : Option Value → hp → Prop} (F : MF M) (h4 : vin x5 13 = true) : Wp none d 217 146 [(0, .ref 126), (1, .int x1), (2, .int x2), (3, .int x3), (4, .int x4), (5, .int x5), (6, .int x6)] [.int s0, .ref s1] M Q = Wp none d 217 205 [(0, .ref 126), (1, .int x1), (2, .int x2), (3, .int x3), (4, .int x4), (5, .int x5), (6, .int x6)] [.long (hL M 145 x5.toNatClampNeg), .int s0, .ref s1] M Q := by
  rw [k217_146 (x0 := 126) F.1 (by rw [m_R36 F]; decide) (by rw [m_R36 F, m_K145 F]) (by rw [m_R36 F, m_K145 F]; exact h4)]
  simp only [m_R36 F]
theorem m217_159 {d : Nat} {x1 : Int32} {x2 : Int32} {x3 : Int32} {x4 : Int32} {x5 : Int32} {x6 : Int32} {s0 : Int32} {s2 : Int32} {s3 : Nat} {M : hp} {Q : Option Value → hp → Prop} (F : MF M) : Wp none d 217 159 [(0, .ref 126), (1, .int x1), (2, .int x2), (3, .int x3), (4, .int x4), (5, .int x5), (6, .int x6)] [.int s0, .ref 126, .int s2, .ref s3] M Q = Wp none d 165 0 [(0, .ref 126), (1, .int s0)] [] M (fun r M1 => Wp none d 217 162 [(0, .ref 126), (1, .int x1), (2, .int x2), (3, .int x3), (4, .int x4), (5, .int x5), (6, .int x6)] (r.toList ++ [.int s2, .ref s3]) M1 Q) := by
  rw [k217_159 (x0 := 126) (s1 := 126) F.1]
theorem m217_177 {d : Nat} {x1 : Int32} {x2 : Int32} {x3 : Int32} {x4 : Int32} {x5 : Int32} {x6 : Int32} {s0 : Int32} {s1 : Nat} {M : hp} {Q : Option Value → hp → Prop} (F : MF M) (h5 : vin (7 + x6) 5447 = true) : Wp none d 217 177 [(0, .ref 126), (1, .int x1), (2, .int x2), (3, .int x3), (4, .int x4), (5, .int x5), (6, .int x6)] [.int s0, .ref s1] M Q = Wp none d 217 205 [(0, .ref 126), (1, .int x1), (2, .int x2), (3, .int x3), (4, .int x4), (5, .int x5), (6, .int x6)] [.long ((hI M 128 (7 + x6).toNatClampNeg).toInt64), .int s0, .ref s1] M Q := by
  rw [k217_177 (x0 := 126) F.1 (by rw [m_R3 F]; decide) (by rw [m_R3 F]; decide) (by rw [m_R3 F, m_K128 F]) (by rw [m_R3 F, m_K128 F]; exact h5)]
  simp only [m_R3 F]
theorem m217_191 {d : Nat} {x1 : Int32} {x2 : Int32} {x3 : Int32} {x4 : Int32} {x5 : Int32} {x6 : Int32} {s0 : Int32} {s1 : Nat} {M : hp} {Q : Option Value → hp → Prop} (F : MF M) (h5 : vin (14 + x6) 5447 = true) : Wp none d 217 191 [(0, .ref 126), (1, .int x1), (2, .int x2), (3, .int x3), (4, .int x4), (5, .int x5), (6, .int x6)] [.int s0, .ref s1] M Q = Wp none d 217 201 [(0, .ref 126), (1, .int x1), (2, .int x2), (3, .int x3), (4, .int x4), (5, .int x5), (6, .int x6)] [.int (hI M 128 (14 + x6).toNatClampNeg), .int s0, .ref s1] M Q := by
  rw [k217_191 (x0 := 126) F.1 (by rw [m_R3 F]; decide) (by rw [m_R3 F]; decide) (by rw [m_R3 F, m_K128 F]) (by rw [m_R3 F, m_K128 F]; exact h5)]
  simp only [m_R3 F]
theorem m217_205 {d : Nat} {x1 : Int32} {x2 : Int32} {x3 : Int32} {x4 : Int32} {x5 : Int32} {x6 : Int32} {s0 : Int64} {s1 : Int32} {s2 : Nat} {M : hp} {Q : Option Value → hp → Prop} (F : MF M) (h1 : (hK M s2).1 = 21) (h2 : vin s1 (hK M s2).2 = true) : Wp none d 217 205 [(0, .ref 126), (1, .int x1), (2, .int x2), (3, .int x3), (4, .int x4), (5, .int x5), (6, .int x6)] [.long s0, .int s1, .ref s2] M Q = Wp none d 217 206 [(0, .ref 126), (1, .int x1), (2, .int x2), (3, .int x3), (4, .int x4), (5, .int x5), (6, .int x6)] [] (sL M s2 s1.toNatClampNeg s0) Q := by
  rw [k217_205 (x0 := 126) h1 h2]
theorem m217_219 {d : Nat} {x1 : Int32} {x2 : Int32} {x3 : Int32} {x4 : Int32} {x5 : Int32} {x6 : Int32} {M : hp} {Q : Option Value → hp → Prop} (F : MF M) (h4 : vin ((x3 + (-1)) - 1) 400 = true) (h5 : vin (x3 + (-1)) 400 = true) : Wp none d 217 219 [(0, .ref 126), (1, .int x1), (2, .int x2), (3, .int x3), (4, .int x4), (5, .int x5), (6, .int x6)] [] M Q = Wp none d 217 246 [(0, .ref 126), (1, .int x1), (2, .int x2), (3, .int (x3 + (-1))), (4, .int x4), (5, .int x5), (6, .int x6)] [.long (hL M 146 (x3 + (-1)).toNatClampNeg), .long (hL M 146 ((x3 + (-1)) - 1).toNatClampNeg), .int x5, .ref 126, .int ((x3 + (-1)) - 1), .ref 146] M Q := by
  rw [k217_219 (x0 := 126) F.1 (by rw [m_R37 F]; decide) (by rw [m_R37 F, m_K146 F]) (by rw [m_R37 F, m_K146 F]; exact h4) (by rw [m_R37 F, m_K146 F]; exact h5)]
  simp only [m_R37 F]
theorem m217_246 {d : Nat} {x1 : Int32} {x2 : Int32} {x3 : Int32} {x4 : Int32} {x5 : Int32} {x6 : Int32} {s0 : Int64} {s1 : Int64} {s2 : Int32} {s4 : Int32} {s5 : Nat} {M : hp} {Q : Option Value → hp → Prop} (F : MF M) : Wp none d 217 246 [(0, .ref 126), (1, .int x1), (2, .int x2), (3, .int x3), (4, .int x4), (5, .int x5), (6, .int x6)] [.long s0, .long s1, .int s2, .ref 126, .int s4, .ref s5] M Q = Wp none d 216 0 [(0, .ref 126), (1, .int s2), (2, .long s1), (4, .long s0)] [] M (fun r M1 => Wp none d 217 249 [(0, .ref 126), (1, .int x1), (2, .int x2), (3, .int x3), (4, .int x4), (5, .int x5), (6, .int x6)] (r.toList ++ [.int s4, .ref s5]) M1 Q) := by
  rw [k217_246 (x0 := 126) (s3 := 126) F.1]
theorem m217_249 {d : Nat} {x1 : Int32} {x2 : Int32} {x3 : Int32} {x4 : Int32} {x5 : Int32} {x6 : Int32} {s0 : Int64} {s1 : Int32} {s2 : Nat} {M : hp} {Q : Option Value → hp → Prop} (F : MF M) (h1 : (hK M s2).1 = 21) (h2 : vin s1 (hK M s2).2 = true) : Wp none d 217 249 [(0, .ref 126), (1, .int x1), (2, .int x2), (3, .int x3), (4, .int x4), (5, .int x5), (6, .int x6)] [.long s0, .int s1, .ref s2] M Q = Wp none d 217 250 [(0, .ref 126), (1, .int x1), (2, .int x2), (3, .int x3), (4, .int x4), (5, .int x5), (6, .int x6)] [] (sL M s2 s1.toNatClampNeg s0) Q := by
  rw [k217_249 (x0 := 126) h1 h2]
theorem m217_250 {d : Nat} {x1 : Int32} {x2 : Int32} {x3 : Int32} {x4 : Int32} {x5 : Int32} {x6 : Int32} {M : hp} {Q : Option Value → hp → Prop} (F : MF M) : Wp none d 217 250 [(0, .ref 126), (1, .int x1), (2, .int x2), (3, .int x3), (4, .int x4), (5, .int x5), (6, .int x6)] [] M Q = Wp none d 217 255 [(0, .ref 126), (1, .int x1), (2, .int x2), (3, .int x3), (4, .int x4), (5, .int x5), (6, .int x6)] [.int (hI M 126 38), .ref 126] M Q := by
  rw [k217_250 (x0 := 126) F.1]
theorem m217_258 {d : Nat} {x1 : Int32} {x2 : Int32} {x3 : Int32} {x4 : Int32} {x5 : Int32} {x6 : Int32} {s0 : Nat} {M : hp} {Q : Option Value → hp → Prop} (F : MF M) (h4 : vin (x3 - 1) 400 = true) : Wp none d 217 258 [(0, .ref 126), (1, .int x1), (2, .int x2), (3, .int x3), (4, .int x4), (5, .int x5), (6, .int x6)] [.ref s0] M Q = Wp none d 217 272 [(0, .ref 126), (1, .int x1), (2, .int x2), (3, .int x3), (4, .int x4), (5, .int x5), (6, .int x6)] [.long 1000000000, .long (-1000000000), .long (hL M 146 (x3 - 1).toNatClampNeg), .ref s0] M Q := by
  rw [k217_258 (x0 := 126) F.1 (by rw [m_R37 F]; decide) (by rw [m_R37 F, m_K146 F]) (by rw [m_R37 F, m_K146 F]; exact h4)]
  simp only [m_R37 F]
theorem m217_283 {d : Nat} {x1 : Int32} {x2 : Int32} {x3 : Int32} {x4 : Int32} {x5 : Int32} {x6 : Int32} {s0 : Int32} {M : hp} {Q : Option Value → hp → Prop} (F : MF M) (h2 : s0 = 0 ∨ s0 = 1) : Wp none d 217 283 [(0, .ref 126), (1, .int x1), (2, .int x2), (3, .int x3), (4, .int x4), (5, .int x5), (6, .int x6)] [.int s0, .ref 126] M Q = Wp none d 217 351 [(0, .ref 126), (1, .int x1), (2, .int x2), (3, .int x3), (4, .int x4), (5, .int x5), (6, .int x6)] [] (sI M 126 38 s0) Q := by
  rw [k217_283 (x0 := 126) (s1 := 126) F.1 h2]
theorem m217_296 {d : Nat} {x1 : Int32} {x2 : Int32} {x3 : Int32} {x4 : Int32} {x5 : Int32} {x6 : Int32} {M : hp} {Q : Option Value → hp → Prop} (F : MF M) (h4 : vin (x3 - 1) 400 = true) : Wp none d 217 296 [(0, .ref 126), (1, .int x1), (2, .int x2), (3, .int x3), (4, .int x4), (5, .int x5), (6, .int x6)] [] M Q = Wp none d 217 351 [(0, .ref 126), (1, .int x1), (2, .int x2), (3, .int x3), (4, .int x4), (5, .int x5), (6, .int x6)] [] (sL M 146 (x3 - 1).toNatClampNeg (1 - (hL M 146 (x3 - 1).toNatClampNeg))) Q := by
  rw [k217_296 (x0 := 126) F.1 (by rw [m_R37 F]; decide) (by rw [m_R37 F, m_K146 F]) (by rw [m_R37 F, m_K146 F]; exact h4)]
  simp only [m_R37 F]
theorem m217_317 {d : Nat} {x1 : Int32} {x2 : Int32} {x3 : Int32} {x4 : Int32} {x5 : Int32} {x6 : Int32} {M : hp} {Q : Option Value → hp → Prop} (F : MF M) (h4 : vin (x3 - 1) 400 = true) : Wp none d 217 317 [(0, .ref 126), (1, .int x1), (2, .int x2), (3, .int x3), (4, .int x4), (5, .int x5), (6, .int x6)] [] M Q = Wp none d 217 329 [(0, .ref 126), (1, .int x1), (2, .int x2), (3, .int x3), (4, .int x4), (5, .int x5), (6, .int x6)] [.int 29, .int x5, .long (hL M 146 (x3 - 1).toNatClampNeg)] M Q := by
  rw [k217_317 (x0 := 126) F.1 (by rw [m_R37 F]; decide) (by rw [m_R37 F, m_K146 F]) (by rw [m_R37 F, m_K146 F]; exact h4)]
  simp only [m_R37 F]
theorem m217_359 {d : Nat} {x1 : Int32} {x2 : Int32} {x3 : Int32} {x4 : Int32} {s0 : Nat} {M : hp} {Q : Option Value → hp → Prop} (F : MF M) (h4 : vin 0 400 = true) : Wp none d 217 359 [(0, .ref 126), (1, .int x1), (2, .int x2), (3, .int x3), (4, .int x4)] [.ref s0] M Q = Wp none d 217 369 [(0, .ref 126), (1, .int x1), (2, .int x2), (3, .int x3), (4, .int x4)] [.long (hL M 146 (0 : Int32).toNatClampNeg), .ref s0] M Q := by
  rw [k217_359 (x0 := 126) F.1 (by rw [m_R37 F]; decide) (by rw [m_R37 F, m_K146 F]) (by rw [m_R37 F, m_K146 F]; exact h4)]
  simp only [m_R37 F]
theorem m217_369 {d : Nat} {x1 : Int32} {x2 : Int32} {x3 : Int32} {x4 : Int32} {s0 : Int64} {M : hp} {Q : Option Value → hp → Prop} (F : MF M) : Wp none d 217 369 [(0, .ref 126), (1, .int x1), (2, .int x2), (3, .int x3), (4, .int x4)] [.long s0, .ref 126] M Q = Q none (sL M 126 39 s0) := by
  rw [k217_369 (x0 := 126) (s1 := 126) F.1]
theorem m218_0 {d : Nat} {x1 : Int32} {M : hp} {Q : Option Value → hp → Prop} (F : MF M) (h5 : vin (x1 + 5) 5447 = true) (h6 : vin (x1 + 6) 5447 = true) : Wp none d 218 0 [(0, .ref 126), (1, .int x1)] [] M Q = Wp none d 218 17 [(0, .ref 126), (1, .int x1)] [.int (hI M 128 (x1 + 6).toNatClampNeg), .int (hI M 128 (x1 + 5).toNatClampNeg)] M Q := by
  rw [k218_0 (x0 := 126) F.1 (by rw [m_R3 F]; decide) (by rw [m_R3 F]; decide) (by rw [m_R3 F, m_K128 F]) (by rw [m_R3 F, m_K128 F]; exact h5) (by rw [m_R3 F, m_K128 F]; exact h6)]
  simp only [m_R3 F]
theorem m218_20 {d : Nat} {x1 : Int32} {M : hp} {Q : Option Value → hp → Prop} (F : MF M) (h5 : vin (x1 + 5) 5447 = true) (h6 : vin (x1 + 6) 5447 = true) : Wp none d 218 20 [(0, .ref 126), (1, .int x1)] [] M Q = Wp none d 218 38 [(0, .ref 126), (1, .int x1)] [.int (hI M 128 (x1 + 6).toNatClampNeg), .int (hI M 128 (x1 + 5).toNatClampNeg), .ref 126] M Q := by
  rw [k218_20 (x0 := 126) F.1 (by rw [m_R3 F]; decide) (by rw [m_R3 F]; decide) (by rw [m_R3 F, m_K128 F]) (by rw [m_R3 F, m_K128 F]; exact h5) (by rw [m_R3 F, m_K128 F]; exact h6)]
  simp only [m_R3 F]
theorem m218_38 {d : Nat} {x1 : Int32} {s0 : Int32} {s1 : Int32} {M : hp} {Q : Option Value → hp → Prop} (F : MF M) : Wp none d 218 38 [(0, .ref 126), (1, .int x1)] [.int s0, .int s1, .ref 126] M Q = Wp none d 217 0 [(0, .ref 126), (1, .int s1), (2, .int s0)] [] M (fun r M1 => Wp none d 218 41 [(0, .ref 126), (1, .int x1)] (r.toList ++ []) M1 Q) := by
  rw [k218_38 (x0 := 126) (s2 := 126) F.1]
theorem m218_41 {d : Nat} {x1 : Int32} {M : hp} {Q : Option Value → hp → Prop} (F : MF M) : Wp none d 218 41 [(0, .ref 126), (1, .int x1)] [] M Q = Wp none d 218 45 [(0, .ref 126), (1, .int x1)] [.int (hI M 126 38)] M Q := by
  rw [k218_41 (x0 := 126) F.1]
theorem m218_48 {d : Nat} {x1 : Int32} {M : hp} {Q : Option Value → hp → Prop} (F : MF M) : Wp none d 218 48 [(0, .ref 126), (1, .int x1)] [] M Q = Wp none d 218 54 [(0, .ref 126), (1, .int x1)] [.int (lg_cmp (hL M 126 39) 0)] M Q := by
  rw [k218_48 (x0 := 126) F.1]
theorem m218_59 {d : Nat} {x1 : Int32} {M : hp} {Q : Option Value → hp → Prop} (F : MF M) (h5 : vin x1 5447 = true) : Wp none d 218 59 [(0, .ref 126), (1, .int x1)] [] M Q = Wp none d 218 66 [(0, .ref 126), (1, .int x1)] [.int 2, .int (hI M 128 x1.toNatClampNeg)] M Q := by
  rw [k218_59 (x0 := 126) F.1 (by rw [m_R3 F]; decide) (by rw [m_R3 F]; decide) (by rw [m_R3 F, m_K128 F]) (by rw [m_R3 F, m_K128 F]; exact h5)]
  simp only [m_R3 F]
theorem m218_69 {d : Nat} {x1 : Int32} {M : hp} {Q : Option Value → hp → Prop} (F : MF M) (h5 : vin (x1 + 3) 5447 = true) (h6 : vin (x1 + 4) 5447 = true) : Wp none d 218 69 [(0, .ref 126), (1, .int x1)] [] M Q = Wp none d 218 86 [(0, .ref 126), (1, .int x1)] [.int (hI M 128 (x1 + 4).toNatClampNeg), .int (hI M 128 (x1 + 3).toNatClampNeg), .ref 126] M Q := by
  rw [k218_69 (x0 := 126) F.1 (by rw [m_R3 F]; decide) (by rw [m_R3 F]; decide) (by rw [m_R3 F, m_K128 F]) (by rw [m_R3 F, m_K128 F]; exact h5) (by rw [m_R3 F, m_K128 F]; exact h6)]
  simp only [m_R3 F]
theorem m218_86 {d : Nat} {x1 : Int32} {s0 : Int32} {s1 : Int32} {M : hp} {Q : Option Value → hp → Prop} (F : MF M) : Wp none d 218 86 [(0, .ref 126), (1, .int x1)] [.int s0, .int s1, .ref 126] M Q = Wp none d 217 0 [(0, .ref 126), (1, .int s1), (2, .int s0)] [] M (fun r M1 => Wp none d 218 89 [(0, .ref 126), (1, .int x1)] (r.toList ++ []) M1 Q) := by
  rw [k218_86 (x0 := 126) (s2 := 126) F.1]
theorem m218_89 {d : Nat} {x1 : Int32} {M : hp} {Q : Option Value → hp → Prop} (F : MF M) : Wp none d 218 89 [(0, .ref 126), (1, .int x1)] [] M Q = Wp none d 218 97 [(0, .ref 126), (1, .int x1)] [] (sL M 126 40 (hL M 126 39)) Q := by
  rw [k218_89 (x0 := 126) F.1]
theorem m218_97 {d : Nat} {x1 : Int32} {M : hp} {Q : Option Value → hp → Prop} (F : MF M) : Wp none d 218 97 [(0, .ref 126), (1, .int x1)] [] M Q = Wp none d 218 101 [(0, .ref 126), (1, .int x1)] [.int (hI M 126 38)] M Q := by
  rw [k218_97 (x0 := 126) F.1]
theorem m218_109 {d : Nat} {x1 : Int32} {s0 : Int32} {M : hp} {Q : Option Value → hp → Prop} (F : MF M) (h1 : s0 = 0 ∨ s0 = 1) : Wp none d 218 109 [(0, .ref 126), (1, .int x1)] [.int s0] M Q = Q (some (.int s0)) M := by
  rw [k218_109 (x0 := 126) h1]
theorem m219_0 {d : Nat} {x1 : Int32} {x2 : Int32} {x3 : Int32} {x4 : Int32} {x5 : Int64} {M : hp} {Q : Option Value → hp → Prop} (F : MF M) (h5 : vin 3 5447 = true) : Wp none d 219 0 [(0, .ref 126), (1, .int x1), (2, .int x2), (3, .int x3), (4, .int x4), (5, .long x5)] [] M Q = Wp none d 219 7 [(0, .ref 126), (1, .int x1), (2, .int x2), (3, .int x3), (4, .int x4), (5, .long x5)] [.int (-1), .int (hI M 128 (3 : Int32).toNatClampNeg)] M Q := by
  rw [k219_0 (x0 := 126) F.1 (by rw [m_R3 F]; decide) (by rw [m_R3 F]; decide) (by rw [m_R3 F, m_K128 F]) (by rw [m_R3 F, m_K128 F]; exact h5)]
  simp only [m_R3 F]
theorem m219_13 {d : Nat} {x1 : Int32} {x2 : Int32} {x3 : Int32} {x4 : Int32} {x5 : Int64} {M : hp} {Q : Option Value → hp → Prop} (F : MF M) (h5 : vin 3 5447 = true) : Wp none d 219 13 [(0, .ref 126), (1, .int x1), (2, .int x2), (3, .int x3), (4, .int x4), (5, .long x5)] [] M Q = Wp none d 219 30 [(0, .ref 126), (1, .int x1), (2, .int x2), (3, .int x3), (4, .int x4), (5, .long x5)] [] (sI M 126 34 (47 + (900 * (hI M 128 (3 : Int32).toNatClampNeg)))) Q := by
  rw [k219_13 (x0 := 126) F.1 (by rw [m_R3 F]; decide) (by rw [m_R3 F]; decide) (by rw [m_R3 F, m_K128 F]) (by rw [m_R3 F, m_K128 F]; exact h5)]
  simp only [m_R3 F]
theorem m219_30 {d : Nat} {x1 : Int32} {x2 : Int32} {x3 : Int32} {x4 : Int32} {x5 : Int64} {M : hp} {Q : Option Value → hp → Prop} (F : MF M) (h4 : vin 1 13 = true) : Wp none d 219 30 [(0, .ref 126), (1, .int x1), (2, .int x2), (3, .int x3), (4, .int x4), (5, .long x5)] [] M Q = Wp none d 219 38 [(0, .ref 126), (1, .int x1), (2, .int x2), (3, .int x3), (4, .int x4), (5, .long x5)] [] (sL M 144 (1 : Int32).toNatClampNeg x2.toInt64) Q := by
  rw [k219_30 (x0 := 126) F.1 (by rw [m_R35 F]; decide) (by rw [m_R35 F, m_K144 F]) (by rw [m_R35 F, m_K144 F]; exact h4)]
  simp only [m_R35 F]
theorem m219_38 {d : Nat} {x1 : Int32} {x2 : Int32} {x3 : Int32} {x4 : Int32} {x5 : Int64} {M : hp} {Q : Option Value → hp → Prop} (F : MF M) (h6 : vin (21 + x2) 5447 = true) (h8 : vin 2 13 = true) : Wp none d 219 38 [(0, .ref 126), (1, .int x1), (2, .int x2), (3, .int x3), (4, .int x4), (5, .long x5)] [] M Q = Wp none d 219 54 [(0, .ref 126), (1, .int x1), (2, .int x2), (3, .int x3), (4, .int x4), (5, .long x5)] [] (sL M 144 (2 : Int32).toNatClampNeg ((hI M 128 (21 + x2).toNatClampNeg).toInt64)) Q := by
  rw [k219_38 (x0 := 126) F.1 (by rw [m_R35 F]; decide) (by rw [m_R3 F]; decide) (by rw [m_R3 F]; decide) (by rw [m_R3 F, m_K128 F]) (by rw [m_R3 F, m_K128 F]; exact h6) (by rw [m_R35 F, m_K144 F]) (by rw [m_R35 F, m_K144 F]; exact h8)]
  simp only [m_R35 F, m_R3 F]
theorem m219_54 {d : Nat} {x1 : Int32} {x2 : Int32} {x3 : Int32} {x4 : Int32} {x5 : Int64} {M : hp} {Q : Option Value → hp → Prop} (F : MF M) (h6 : vin (28 + x2) 5447 = true) (h8 : vin 3 13 = true) : Wp none d 219 54 [(0, .ref 126), (1, .int x1), (2, .int x2), (3, .int x3), (4, .int x4), (5, .long x5)] [] M Q = Wp none d 219 70 [(0, .ref 126), (1, .int x1), (2, .int x2), (3, .int x3), (4, .int x4), (5, .long x5)] [] (sL M 144 (3 : Int32).toNatClampNeg ((hI M 128 (28 + x2).toNatClampNeg).toInt64)) Q := by
  rw [k219_54 (x0 := 126) F.1 (by rw [m_R35 F]; decide) (by rw [m_R3 F]; decide) (by rw [m_R3 F]; decide) (by rw [m_R3 F, m_K128 F]) (by rw [m_R3 F, m_K128 F]; exact h6) (by rw [m_R35 F, m_K144 F]) (by rw [m_R35 F, m_K144 F]; exact h8)]
  simp only [m_R35 F, m_R3 F]
theorem m219_70 {d : Nat} {x1 : Int32} {x2 : Int32} {x3 : Int32} {x4 : Int32} {x5 : Int64} {M : hp} {Q : Option Value → hp → Prop} (F : MF M) (h6 : vin (14 + x2) 5447 = true) : Wp none d 219 70 [(0, .ref 126), (1, .int x1), (2, .int x2), (3, .int x3), (4, .int x4), (5, .long x5)] [] M Q = Wp none d 219 84 [(0, .ref 126), (1, .int x1), (2, .int x2), (3, .int x3), (4, .int x4), (5, .long x5)] [.int (hI M 128 (14 + x2).toNatClampNeg), .int 4, .ref 144] M Q := by
  rw [k219_70 (x0 := 126) F.1 (by rw [m_R35 F]; decide) (by rw [m_R3 F]; decide) (by rw [m_R3 F]; decide) (by rw [m_R3 F, m_K128 F]) (by rw [m_R3 F, m_K128 F]; exact h6)]
  simp only [m_R3 F, m_R35 F]
theorem m219_87 {d : Nat} {x1 : Int32} {x2 : Int32} {x3 : Int32} {x4 : Int32} {x5 : Int64} {s0 : Int32} {s1 : Int32} {s2 : Nat} {M : hp} {Q : Option Value → hp → Prop} (F : MF M) (h1 : (hK M s2).1 = 21) (h2 : vin s1 (hK M s2).2 = true) : Wp none d 219 87 [(0, .ref 126), (1, .int x1), (2, .int x2), (3, .int x3), (4, .int x4), (5, .long x5)] [.int s0, .int s1, .ref s2] M Q = Wp none d 219 89 [(0, .ref 126), (1, .int x1), (2, .int x2), (3, .int x3), (4, .int x4), (5, .long x5)] [] (sL M s2 s1.toNatClampNeg s0.toInt64) Q := by
  rw [k219_87 (x0 := 126) h1 h2]
theorem m219_89 {d : Nat} {x1 : Int32} {x2 : Int32} {x3 : Int32} {x4 : Int32} {x5 : Int64} {M : hp} {Q : Option Value → hp → Prop} (F : MF M) (h4 : vin 5 13 = true) : Wp none d 219 89 [(0, .ref 126), (1, .int x1), (2, .int x2), (3, .int x3), (4, .int x4), (5, .long x5)] [] M Q = Wp none d 219 97 [(0, .ref 126), (1, .int x1), (2, .int x2), (3, .int x3), (4, .int x4), (5, .long x5)] [] (sL M 144 (5 : Int32).toNatClampNeg x3.toInt64) Q := by
  rw [k219_89 (x0 := 126) F.1 (by rw [m_R35 F]; decide) (by rw [m_R35 F, m_K144 F]) (by rw [m_R35 F, m_K144 F]; exact h4)]
  simp only [m_R35 F]
theorem m219_97 {d : Nat} {x1 : Int32} {x2 : Int32} {x3 : Int32} {x4 : Int32} {x5 : Int64} {M : hp} {Q : Option Value → hp → Prop} (F : MF M) : Wp none d 219 97 [(0, .ref 126), (1, .int x1), (2, .int x2), (3, .int x3), (4, .int x4), (5, .long x5)] [] M Q = Wp none d 219 105 [(0, .ref 126), (1, .int x1), (2, .int x2), (3, .int x3), (4, .int x4), (5, .long x5)] [.int (-1), .int x3, .int 6, .ref 144] M Q := by
  rw [k219_97 (x0 := 126) F.1 (by rw [m_R35 F]; decide)]
  simp only [m_R35 F]
theorem m219_114 {d : Nat} {x1 : Int32} {x2 : Int32} {x3 : Int32} {x4 : Int32} {x5 : Int64} {s0 : Int32} {s1 : Nat} {M : hp} {Q : Option Value → hp → Prop} (F : MF M) (h5 : vin (21 + x3) 5447 = true) : Wp none d 219 114 [(0, .ref 126), (1, .int x1), (2, .int x2), (3, .int x3), (4, .int x4), (5, .long x5)] [.int s0, .ref s1] M Q = Wp none d 219 124 [(0, .ref 126), (1, .int x1), (2, .int x2), (3, .int x3), (4, .int x4), (5, .long x5)] [.long ((hI M 128 (21 + x3).toNatClampNeg).toInt64), .int s0, .ref s1] M Q := by
  rw [k219_114 (x0 := 126) F.1 (by rw [m_R3 F]; decide) (by rw [m_R3 F]; decide) (by rw [m_R3 F, m_K128 F]) (by rw [m_R3 F, m_K128 F]; exact h5)]
  simp only [m_R3 F]
theorem m219_124 {d : Nat} {x1 : Int32} {x2 : Int32} {x3 : Int32} {x4 : Int32} {x5 : Int64} {s0 : Int64} {s1 : Int32} {s2 : Nat} {M : hp} {Q : Option Value → hp → Prop} (F : MF M) (h1 : (hK M s2).1 = 21) (h2 : vin s1 (hK M s2).2 = true) : Wp none d 219 124 [(0, .ref 126), (1, .int x1), (2, .int x2), (3, .int x3), (4, .int x4), (5, .long x5)] [.long s0, .int s1, .ref s2] M Q = Wp none d 219 125 [(0, .ref 126), (1, .int x1), (2, .int x2), (3, .int x3), (4, .int x4), (5, .long x5)] [] (sL M s2 s1.toNatClampNeg s0) Q := by
  rw [k219_124 (x0 := 126) h1 h2]
theorem m219_125 {d : Nat} {x1 : Int32} {x2 : Int32} {x3 : Int32} {x4 : Int32} {x5 : Int64} {M : hp} {Q : Option Value → hp → Prop} (F : MF M) (h4 : vin 7 13 = true) : Wp none d 219 125 [(0, .ref 126), (1, .int x1), (2, .int x2), (3, .int x3), (4, .int x4), (5, .long x5)] [] M Q = Wp none d 219 135 [(0, .ref 126), (1, .int x1), (2, .int x2), (3, .int x3), (4, .int x4), (5, .long x5)] [] (sL M 144 (7 : Int32).toNatClampNeg x4.toInt64) Q := by
  rw [k219_125 (x0 := 126) F.1 (by rw [m_R35 F]; decide) (by rw [m_R35 F, m_K144 F]) (by rw [m_R35 F, m_K144 F]; exact h4)]
  simp only [m_R35 F]
theorem m219_135 {d : Nat} {x1 : Int32} {x2 : Int32} {x3 : Int32} {x4 : Int32} {x5 : Int64} {M : hp} {Q : Option Value → hp → Prop} (F : MF M) (h6 : vin 4 5447 = true) (h8 : vin 8 13 = true) : Wp none d 219 135 [(0, .ref 126), (1, .int x1), (2, .int x2), (3, .int x3), (4, .int x4), (5, .long x5)] [] M Q = Wp none d 219 149 [(0, .ref 126), (1, .int x1), (2, .int x2), (3, .int x3), (4, .int x4), (5, .long x5)] [] (sL M 144 (8 : Int32).toNatClampNeg ((hI M 128 (4 : Int32).toNatClampNeg).toInt64)) Q := by
  rw [k219_135 (x0 := 126) F.1 (by rw [m_R35 F]; decide) (by rw [m_R3 F]; decide) (by rw [m_R3 F]; decide) (by rw [m_R3 F, m_K128 F]) (by rw [m_R3 F, m_K128 F]; exact h6) (by rw [m_R35 F, m_K144 F]) (by rw [m_R35 F, m_K144 F]; exact h8)]
  simp only [m_R35 F, m_R3 F]
theorem m219_149 {d : Nat} {x1 : Int32} {x2 : Int32} {x3 : Int32} {x4 : Int32} {x5 : Int64} {M : hp} {Q : Option Value → hp → Prop} (F : MF M) (h6 : vin 6 5447 = true) (h8 : vin 9 13 = true) : Wp none d 219 149 [(0, .ref 126), (1, .int x1), (2, .int x2), (3, .int x3), (4, .int x4), (5, .long x5)] [] M Q = Wp none d 219 164 [(0, .ref 126), (1, .int x1), (2, .int x2), (3, .int x3), (4, .int x4), (5, .long x5)] [] (sL M 144 (9 : Int32).toNatClampNeg ((hI M 128 (6 : Int32).toNatClampNeg).toInt64)) Q := by
  rw [k219_149 (x0 := 126) F.1 (by rw [m_R35 F]; decide) (by rw [m_R3 F]; decide) (by rw [m_R3 F]; decide) (by rw [m_R3 F, m_K128 F]) (by rw [m_R3 F, m_K128 F]; exact h6) (by rw [m_R35 F, m_K144 F]) (by rw [m_R35 F, m_K144 F]; exact h8)]
  simp only [m_R35 F, m_R3 F]
theorem m219_171 {d : Nat} {x1 : Int32} {x2 : Int32} {x3 : Int32} {x4 : Int32} {x5 : Int64} {x7 : Int64} {x9 : Int32} {M : hp} {Q : Option Value → hp → Prop} (F : MF M) (h5 : vin ((hI M 126 34) + 1) 5447 = true) : Wp none d 219 171 [(0, .ref 126), (1, .int x1), (2, .int x2), (3, .int x3), (4, .int x4), (5, .long x5), (7, .long x7), (9, .int x9)] [] M Q = Wp none d 219 184 [(0, .ref 126), (1, .int x1), (2, .int x2), (3, .int x3), (4, .int x4), (5, .long x5), (7, .long x7), (9, .int x9)] [.int (hI M 128 ((hI M 126 34) + 1).toNatClampNeg), .int x9] M Q := by
  rw [k219_171 (x0 := 126) F.1 (by rw [m_R3 F]; decide) (by rw [m_R3 F]; decide) (by rw [m_R3 F, m_K128 F]) (by rw [m_R3 F, m_K128 F]; exact h5)]
  simp only [m_R3 F]
theorem m219_187 {d : Nat} {x1 : Int32} {x2 : Int32} {x3 : Int32} {x4 : Int32} {x5 : Int64} {x7 : Int64} {x9 : Int32} {M : hp} {Q : Option Value → hp → Prop} (F : MF M) (h5 : vin (((hI M 126 34) + 2) + (8 * x9)) 5447 = true) : Wp none d 219 187 [(0, .ref 126), (1, .int x1), (2, .int x2), (3, .int x3), (4, .int x4), (5, .long x5), (7, .long x7), (9, .int x9)] [] M Q = Wp none d 219 209 [(0, .ref 126), (1, .int x1), (2, .int x2), (3, .int x3), (4, .int x4), (5, .long x5), (7, .long x7), (9, .int x9), (10, .int (((hI M 126 34) + 2) + (8 * x9)))] [.int x1, .int (hI M 128 (((hI M 126 34) + 2) + (8 * x9)).toNatClampNeg)] M Q := by
  rw [k219_187 (x0 := 126) F.1 (by rw [m_R3 F]; decide) (by rw [m_R3 F]; decide) (by rw [m_R3 F, m_K128 F]) (by rw [m_R3 F, m_K128 F]; exact h5)]
  simp only [m_R3 F]
theorem m219_215 {d : Nat} {x1 : Int32} {x2 : Int32} {x3 : Int32} {x4 : Int32} {x5 : Int64} {x7 : Int64} {x9 : Int32} {x10 : Int32} {s0 : Int32} {M : hp} {Q : Option Value → hp → Prop} (F : MF M) : Wp none d 219 215 [(0, .ref 126), (1, .int x1), (2, .int x2), (3, .int x3), (4, .int x4), (5, .long x5), (7, .long x7), (9, .int x9), (10, .int x10)] [.int s0, .ref 126] M Q = Wp none d 218 0 [(0, .ref 126), (1, .int s0)] [] M (fun r M1 => Wp none d 219 218 [(0, .ref 126), (1, .int x1), (2, .int x2), (3, .int x3), (4, .int x4), (5, .long x5), (7, .long x7), (9, .int x9), (10, .int x10)] (r.toList ++ []) M1 Q) := by
  rw [k219_215 (x0 := 126) (s1 := 126) F.1]
theorem m219_230 {d : Nat} {x1 : Int32} {x2 : Int32} {x3 : Int32} {x4 : Int32} {x5 : Int64} {x7 : Int64} {x9 : Int32} {x10 : Int32} {M : hp} {Q : Option Value → hp → Prop} (F : MF M) : Wp none d 219 230 [(0, .ref 126), (1, .int x1), (2, .int x2), (3, .int x3), (4, .int x4), (5, .long x5), (7, .long x7), (9, .int x9), (10, .int x10)] [] M Q = Wp none d 219 234 [(0, .ref 126), (1, .int x1), (2, .int x2), (3, .int x3), (4, .int x4), (5, .long x5), (7, .long x7), (9, .int x9), (10, .int x10)] [.long (hL M 126 40)] M Q := by
  rw [k219_230 (x0 := 126) F.1]
theorem m220_6 {d : Nat} {x1 : Int32} {x2 : Int32} {s0 : Int64} {s1 : Int32} {s2 : Int32} {s3 : Int32} {s4 : Int32} {M : hp} {Q : Option Value → hp → Prop} (F : MF M) : Wp none d 220 6 [(0, .ref 126), (1, .int x1), (2, .int x2)] [.long s0, .int s1, .int s2, .int s3, .int s4, .ref 126] M Q = Wp none d 219 0 [(0, .ref 126), (1, .int s4), (2, .int s3), (3, .int s2), (4, .int s1), (5, .long s0)] [] M (fun r M1 => Wp none d 220 9 [(0, .ref 126), (1, .int x1), (2, .int x2)] (r.toList ++ []) M1 Q) := by
  rw [k220_6 (x0 := 126) (s5 := 126) F.1]
theorem m221_6 {d : Nat} {x1 : Int32} {x2 : Int32} {x3 : Int32} {s0 : Int64} {s1 : Int32} {s2 : Int32} {s3 : Int32} {s4 : Int32} {M : hp} {Q : Option Value → hp → Prop} (F : MF M) : Wp none d 221 6 [(0, .ref 126), (1, .int x1), (2, .int x2), (3, .int x3)] [.long s0, .int s1, .int s2, .int s3, .int s4, .ref 126] M Q = Wp none d 219 0 [(0, .ref 126), (1, .int s4), (2, .int s3), (3, .int s2), (4, .int s1), (5, .long s0)] [] M (fun r M1 => Wp none d 221 9 [(0, .ref 126), (1, .int x1), (2, .int x2), (3, .int x3)] (r.toList ++ []) M1 Q) := by
  rw [k221_6 (x0 := 126) (s5 := 126) F.1]
theorem m221_19 {d : Nat} {x1 : Int32} {x2 : Int32} {x3 : Int32} {s0 : Int32} {M : hp} {Q : Option Value → hp → Prop} (F : MF M) (h1 : s0 = 0 ∨ s0 = 1) : Wp none d 221 19 [(0, .ref 126), (1, .int x1), (2, .int x2), (3, .int x3)] [.int s0] M Q = Q (some (.int s0)) M := by
  rw [k221_19 (x0 := 126) h1]
theorem m222_6 {d : Nat} {x1 : Int32} {x2 : Int32} {s0 : Int64} {s1 : Int32} {s2 : Int32} {s3 : Int32} {s4 : Int32} {M : hp} {Q : Option Value → hp → Prop} (F : MF M) : Wp none d 222 6 [(0, .ref 126), (1, .int x1), (2, .int x2)] [.long s0, .int s1, .int s2, .int s3, .int s4, .ref 126] M Q = Wp none d 219 0 [(0, .ref 126), (1, .int s4), (2, .int s3), (3, .int s2), (4, .int s1), (5, .long s0)] [] M (fun r M1 => Wp none d 222 9 [(0, .ref 126), (1, .int x1), (2, .int x2)] (r.toList ++ []) M1 Q) := by
  rw [k222_6 (x0 := 126) (s5 := 126) F.1]
theorem m223_3 {d : Nat} {x1 : Int32} {x2 : Int32} {s0 : Int32} {s1 : Int32} {M : hp} {Q : Option Value → hp → Prop} (F : MF M) : Wp none d 223 3 [(0, .ref 126), (1, .int x1), (2, .int x2)] [.int s0, .int s1, .ref 126] M Q = Wp none d 220 0 [(0, .ref 126), (1, .int s1), (2, .int s0)] [] M (fun r M1 => Wp none d 223 6 [(0, .ref 126), (1, .int x1), (2, .int x2)] (r.toList ++ []) M1 Q) := by
  rw [k223_3 (x0 := 126) (s2 := 126) F.1]
theorem m223_28 {d : Nat} {x1 : Int32} {x2 : Int32} {x3 : Int32} {x4 : Int32} {x5 : Int32} {s0 : Int32} {s1 : Int32} {M : hp} {Q : Option Value → hp → Prop} (F : MF M) : Wp none d 223 28 [(0, .ref 126), (1, .int x1), (2, .int x2), (3, .int x3), (4, .int x4), (5, .int x5)] [.int s0, .int s1, .ref 126] M Q = Wp none d 169 0 [(0, .ref 126), (1, .int s1), (2, .int s0)] [] M (fun r M1 => Wp none d 223 31 [(0, .ref 126), (1, .int x1), (2, .int x2), (3, .int x3), (4, .int x4), (5, .int x5)] (r.toList ++ []) M1 Q) := by
  rw [k223_28 (x0 := 126) (s2 := 126) F.1]
theorem m223_38 {d : Nat} {x1 : Int32} {x2 : Int32} {x3 : Int32} {x4 : Int32} {x5 : Int32} {s0 : Int32} {s1 : Int32} {M : hp} {Q : Option Value → hp → Prop} (F : MF M) : Wp none d 223 38 [(0, .ref 126), (1, .int x1), (2, .int x2), (3, .int x3), (4, .int x4), (5, .int x5)] [.int s0, .int s1, .ref 126] M Q = Wp none d 169 0 [(0, .ref 126), (1, .int s1), (2, .int s0)] [] M (fun r M1 => Wp none d 223 41 [(0, .ref 126), (1, .int x1), (2, .int x2), (3, .int x3), (4, .int x4), (5, .int x5)] (r.toList ++ []) M1 Q) := by
  rw [k223_38 (x0 := 126) (s2 := 126) F.1]
theorem m223_49 {d : Nat} {x1 : Int32} {x2 : Int32} {x3 : Int32} {x4 : Int32} {x5 : Int32} {s0 : Int32} {s1 : Int32} {s2 : Int32} {M : hp} {Q : Option Value → hp → Prop} (F : MF M) : Wp none d 223 49 [(0, .ref 126), (1, .int x1), (2, .int x2), (3, .int x3), (4, .int x4), (5, .int x5)] [.int s0, .int s1, .int s2, .ref 126] M Q = Wp none d 221 0 [(0, .ref 126), (1, .int s2), (2, .int s1), (3, .int s0)] [] M (fun r M1 => Wp none d 223 52 [(0, .ref 126), (1, .int x1), (2, .int x2), (3, .int x3), (4, .int x4), (5, .int x5)] (r.toList ++ []) M1 Q) := by
  rw [k223_49 (x0 := 126) (s3 := 126) F.1]
theorem m224_4 {d : Nat} {x1 : Int32} {x2 : Int32} {x3 : Int32} {M : hp} {Q : Option Value → hp → Prop} (F : MF M) (h5 : vin 0 5447 = true) : Wp none d 224 4 [(0, .ref 126), (1, .int x1), (2, .int x2), (3, .int x3)] [] M Q = Wp none d 224 11 [(0, .ref 126), (1, .int x1), (2, .int x2), (3, .int x3)] [.int (hI M 128 (0 : Int32).toNatClampNeg), .int x3] M Q := by
  rw [k224_4 (x0 := 126) F.1 (by rw [m_R3 F]; decide) (by rw [m_R3 F]; decide) (by rw [m_R3 F, m_K128 F]) (by rw [m_R3 F, m_K128 F]; exact h5)]
  simp only [m_R3 F]
theorem m224_23 {d : Nat} {x1 : Int32} {x2 : Int32} {x3 : Int32} {s0 : Int32} {s1 : Int32} {s3 : Int32} {M : hp} {Q : Option Value → hp → Prop} (F : MF M) : Wp none d 224 23 [(0, .ref 126), (1, .int x1), (2, .int x2), (3, .int x3)] [.int s0, .int s1, .ref 126, .int s3] M Q = Wp none d 171 0 [(0, .ref 126), (1, .int s1), (2, .int s0)] [] M (fun r M1 => Wp none d 224 26 [(0, .ref 126), (1, .int x1), (2, .int x2), (3, .int x3)] (r.toList ++ [.int s3]) M1 Q) := by
  rw [k224_23 (x0 := 126) (s2 := 126) F.1]
theorem m225_2 {d : Nat} {x1 : Int32} {x2 : Int32} {s0 : Int32} {M : hp} {Q : Option Value → hp → Prop} (F : MF M) : Wp none d 225 2 [(0, .ref 126), (1, .int x1), (2, .int x2)] [.int s0, .ref 126] M Q = Wp none d 168 0 [(0, .ref 126), (1, .int s0)] [] M (fun r M1 => Wp none d 225 5 [(0, .ref 126), (1, .int x1), (2, .int x2)] (r.toList ++ []) M1 Q) := by
  rw [k225_2 (x0 := 126) (s1 := 126) F.1]
theorem m225_10 {d : Nat} {x1 : Int32} {x2 : Int32} {s0 : Int32} {M : hp} {Q : Option Value → hp → Prop} (F : MF M) : Wp none d 225 10 [(0, .ref 126), (1, .int x1), (2, .int x2)] [.int s0, .ref 126] M Q = Wp none d 170 0 [(0, .ref 126), (1, .int s0)] [] M (fun r M1 => Wp none d 225 13 [(0, .ref 126), (1, .int x1), (2, .int x2)] (r.toList ++ []) M1 Q) := by
  rw [k225_10 (x0 := 126) (s1 := 126) F.1]
theorem m225_22 {d : Nat} {x1 : Int32} {x2 : Int32} {s0 : Int32} {M : hp} {Q : Option Value → hp → Prop} (F : MF M) (h1 : s0 = 0 ∨ s0 = 1) : Wp none d 225 22 [(0, .ref 126), (1, .int x1), (2, .int x2)] [.int s0] M Q = Q (some (.int s0)) M := by
  rw [k225_22 (x0 := 126) h1]
theorem m226_11 {d : Nat} {x1 : Int32} {x2 : Int32} {s0 : Int32} {M : hp} {Q : Option Value → hp → Prop} (F : MF M) : Wp none d 226 11 [(0, .ref 126), (1, .int x1), (2, .int x2)] [.int s0, .ref 126] M Q = Wp none d 165 0 [(0, .ref 126), (1, .int s0)] [] M (fun r M1 => Wp none d 226 14 [(0, .ref 126), (1, .int x1), (2, .int x2)] (r.toList ++ []) M1 Q) := by
  rw [k226_11 (x0 := 126) (s1 := 126) F.1]
theorem m226_23 {d : Nat} {x1 : Int32} {x2 : Int32} {s0 : Int32} {s1 : Int32} {M : hp} {Q : Option Value → hp → Prop} (F : MF M) : Wp none d 226 23 [(0, .ref 126), (1, .int x1), (2, .int x2)] [.int s0, .int s1, .ref 126] M Q = Wp none d 225 0 [(0, .ref 126), (1, .int s1), (2, .int s0)] [] M (fun r M1 => Wp none d 226 26 [(0, .ref 126), (1, .int x1), (2, .int x2)] (r.toList ++ []) M1 Q) := by
  rw [k226_23 (x0 := 126) (s2 := 126) F.1]
theorem m226_34 {d : Nat} {x1 : Int32} {x2 : Int32} {s0 : Int32} {M : hp} {Q : Option Value → hp → Prop} (F : MF M) : Wp none d 226 34 [(0, .ref 126), (1, .int x1), (2, .int x2)] [.int s0, .ref 126] M Q = Wp none d 161 0 [(0, .ref 126), (1, .int s0)] [] M (fun r M1 => Wp none d 226 37 [(0, .ref 126), (1, .int x1), (2, .int x2)] (r.toList ++ []) M1 Q) := by
  rw [k226_34 (x0 := 126) (s1 := 126) F.1]
theorem m226_37 {d : Nat} {x1 : Int32} {x2 : Int32} {M : hp} {Q : Option Value → hp → Prop} (F : MF M) (h4 : vin (7 + x1) 5447 = true) : Wp none d 226 37 [(0, .ref 126), (1, .int x1), (2, .int x2)] [] M Q = Wp none d 226 47 [(0, .ref 126), (1, .int x1), (2, .int x2)] [] (sI M 128 (7 + x1).toNatClampNeg x2) Q := by
  rw [k226_37 (x0 := 126) F.1 (by rw [m_R3 F]; decide) (by rw [m_R3 F, m_K128 F]) (by rw [m_R3 F, m_K128 F]; exact h4)]
  simp only [m_R3 F]
theorem m226_49 {d : Nat} {x1 : Int32} {x2 : Int32} {s0 : Int32} {M : hp} {Q : Option Value → hp → Prop} (F : MF M) : Wp none d 226 49 [(0, .ref 126), (1, .int x1), (2, .int x2)] [.int s0, .ref 126] M Q = Wp none d 224 0 [(0, .ref 126), (1, .int s0)] [] M (fun r M1 => Wp none d 226 52 [(0, .ref 126), (1, .int x1), (2, .int x2)] (r.toList ++ []) M1 Q) := by
  rw [k226_49 (x0 := 126) (s1 := 126) F.1]
theorem m227_0 {d : Nat} {x1 : Int32} {x2 : Int32} {M : hp} {Q : Option Value → hp → Prop} (F : MF M) : Wp none d 227 0 [(0, .ref 126), (1, .int x1), (2, .int x2)] [] M Q = Wp none d 227 5 [(0, .ref 126), (1, .int x1), (2, .int x2)] [] (sI M 126 0 0) Q := by
  rw [k227_0 (x0 := 126) F.1]
theorem m227_9 {d : Nat} {x1 : Int32} {x2 : Int32} {s0 : Int32} {s1 : Int32} {s3 : Nat} {M : hp} {Q : Option Value → hp → Prop} (F : MF M) : Wp none d 227 9 [(0, .ref 126), (1, .int x1), (2, .int x2)] [.int s0, .int s1, .ref 126, .ref s3] M Q = Wp none d 226 0 [(0, .ref 126), (1, .int s1), (2, .int s0)] [] M (fun r M1 => Wp none d 227 12 [(0, .ref 126), (1, .int x1), (2, .int x2)] (r.toList ++ [.ref s3]) M1 Q) := by
  rw [k227_9 (x0 := 126) (s2 := 126) F.1]
theorem m227_12 {d : Nat} {x1 : Int32} {x2 : Int32} {s0 : Int32} {M : hp} {Q : Option Value → hp → Prop} (F : MF M) : Wp none d 227 12 [(0, .ref 126), (1, .int x1), (2, .int x2)] [.int s0, .ref 126] M Q = Wp none d 156 0 [(0, .ref 126), (1, .int s0)] [] M (fun r M1 => Wp none d 227 15 [(0, .ref 126), (1, .int x1), (2, .int x2)] (r.toList ++ []) M1 Q) := by
  rw [k227_12 (x0 := 126) (s1 := 126) F.1]
theorem m228_2 {d : Nat} {x1 : Int32} {s0 : Int32} {M : hp} {Q : Option Value → hp → Prop} (F : MF M) : Wp none d 228 2 [(0, .ref 126), (1, .int x1)] [.int s0, .ref 126] M Q = Wp none d 165 0 [(0, .ref 126), (1, .int s0)] [] M (fun r M1 => Wp none d 228 5 [(0, .ref 126), (1, .int x1)] (r.toList ++ []) M1 Q) := by
  rw [k228_2 (x0 := 126) (s1 := 126) F.1]
theorem m228_13 {d : Nat} {x1 : Int32} {s0 : Int32} {M : hp} {Q : Option Value → hp → Prop} (F : MF M) : Wp none d 228 13 [(0, .ref 126), (1, .int x1)] [.int s0, .ref 126] M Q = Wp none d 168 0 [(0, .ref 126), (1, .int s0)] [] M (fun r M1 => Wp none d 228 16 [(0, .ref 126), (1, .int x1)] (r.toList ++ []) M1 Q) := by
  rw [k228_13 (x0 := 126) (s1 := 126) F.1]
theorem m228_24 {d : Nat} {x1 : Int32} {s0 : Int32} {M : hp} {Q : Option Value → hp → Prop} (F : MF M) : Wp none d 228 24 [(0, .ref 126), (1, .int x1)] [.int s0, .ref 126] M Q = Wp none d 161 0 [(0, .ref 126), (1, .int s0)] [] M (fun r M1 => Wp none d 228 27 [(0, .ref 126), (1, .int x1)] (r.toList ++ []) M1 Q) := by
  rw [k228_24 (x0 := 126) (s1 := 126) F.1]
theorem m228_27 {d : Nat} {x1 : Int32} {M : hp} {Q : Option Value → hp → Prop} (F : MF M) (h5 : vin (7 + x1) 5447 = true) : Wp none d 228 27 [(0, .ref 126), (1, .int x1)] [] M Q = Wp none d 228 47 [(0, .ref 126), (1, .int x1), (2, .int (hI M 128 (7 + x1).toNatClampNeg))] [] (sI M 128 (7 + x1).toNatClampNeg (-1)) Q := by
  rw [k228_27 (x0 := 126) F.1 (by rw [m_R3 F]; decide) (by rw [m_R3 F]; decide) (by rw [m_R3 F, m_K128 F]) (by rw [m_R3 F, m_K128 F]; exact h5)]
  simp only [m_R3 F]
theorem m229_0 {d : Nat} {x1 : Int32} {M : hp} {Q : Option Value → hp → Prop} (F : MF M) : Wp none d 229 0 [(0, .ref 126), (1, .int x1)] [] M Q = Wp none d 229 5 [(0, .ref 126), (1, .int x1)] [] (sI M 126 0 0) Q := by
  rw [k229_0 (x0 := 126) F.1]
theorem m229_8 {d : Nat} {x1 : Int32} {s0 : Int32} {s2 : Nat} {M : hp} {Q : Option Value → hp → Prop} (F : MF M) : Wp none d 229 8 [(0, .ref 126), (1, .int x1)] [.int s0, .ref 126, .ref s2] M Q = Wp none d 228 0 [(0, .ref 126), (1, .int s0)] [] M (fun r M1 => Wp none d 229 11 [(0, .ref 126), (1, .int x1)] (r.toList ++ [.ref s2]) M1 Q) := by
  rw [k229_8 (x0 := 126) (s1 := 126) F.1]
theorem m229_11 {d : Nat} {x1 : Int32} {s0 : Int32} {M : hp} {Q : Option Value → hp → Prop} (F : MF M) : Wp none d 229 11 [(0, .ref 126), (1, .int x1)] [.int s0, .ref 126] M Q = Wp none d 156 0 [(0, .ref 126), (1, .int s0)] [] M (fun r M1 => Wp none d 229 14 [(0, .ref 126), (1, .int x1)] (r.toList ++ []) M1 Q) := by
  rw [k229_11 (x0 := 126) (s1 := 126) F.1]
theorem m230_11 {d : Nat} {x1 : Int32} {x2 : Int32} {s0 : Int32} {M : hp} {Q : Option Value → hp → Prop} (F : MF M) : Wp none d 230 11 [(0, .ref 126), (1, .int x1), (2, .int x2)] [.int s0, .ref 126] M Q = Wp none d 165 0 [(0, .ref 126), (1, .int s0)] [] M (fun r M1 => Wp none d 230 14 [(0, .ref 126), (1, .int x1), (2, .int x2)] (r.toList ++ []) M1 Q) := by
  rw [k230_11 (x0 := 126) (s1 := 126) F.1]
theorem m230_23 {d : Nat} {x1 : Int32} {x2 : Int32} {s0 : Int32} {s1 : Int32} {M : hp} {Q : Option Value → hp → Prop} (F : MF M) : Wp none d 230 23 [(0, .ref 126), (1, .int x1), (2, .int x2)] [.int s0, .int s1, .ref 126] M Q = Wp none d 169 0 [(0, .ref 126), (1, .int s1), (2, .int s0)] [] M (fun r M1 => Wp none d 230 26 [(0, .ref 126), (1, .int x1), (2, .int x2)] (r.toList ++ []) M1 Q) := by
  rw [k230_23 (x0 := 126) (s2 := 126) F.1]
theorem m230_34 {d : Nat} {x1 : Int32} {x2 : Int32} {s0 : Int32} {M : hp} {Q : Option Value → hp → Prop} (F : MF M) : Wp none d 230 34 [(0, .ref 126), (1, .int x1), (2, .int x2)] [.int s0, .ref 126] M Q = Wp none d 161 0 [(0, .ref 126), (1, .int s0)] [] M (fun r M1 => Wp none d 230 37 [(0, .ref 126), (1, .int x1), (2, .int x2)] (r.toList ++ []) M1 Q) := by
  rw [k230_34 (x0 := 126) (s1 := 126) F.1]
theorem m230_37 {d : Nat} {x1 : Int32} {x2 : Int32} {M : hp} {Q : Option Value → hp → Prop} (F : MF M) (h5 : vin (14 + x1) 5447 = true) : Wp none d 230 37 [(0, .ref 126), (1, .int x1), (2, .int x2)] [] M Q = Wp none d 230 52 [(0, .ref 126), (1, .int x1), (2, .int x2)] [] (sI M 128 (14 + x1).toNatClampNeg ((hI M 128 (14 + x1).toNatClampNeg) ||| ((1 : Int32) <<< (x2 &&& 31)))) Q := by
  rw [k230_37 (x0 := 126) F.1 (by rw [m_R3 F]; decide) (by rw [m_R3 F]; decide) (by rw [m_R3 F, m_K128 F]) (by rw [m_R3 F, m_K128 F]; exact h5)]
  simp only [m_R3 F]
theorem m230_52 {d : Nat} {x1 : Int32} {x2 : Int32} {M : hp} {Q : Option Value → hp → Prop} (F : MF M) (h5 : vin (14 + x1) 5447 = true) : Wp none d 230 52 [(0, .ref 126), (1, .int x1), (2, .int x2)] [] M Q = Wp none d 230 61 [(0, .ref 126), (1, .int x1), (2, .int x2)] [.int (hI M 128 (14 + x1).toNatClampNeg)] M Q := by
  rw [k230_52 (x0 := 126) F.1 (by rw [m_R3 F]; decide) (by rw [m_R3 F]; decide) (by rw [m_R3 F, m_K128 F]) (by rw [m_R3 F, m_K128 F]; exact h5)]
  simp only [m_R3 F]
theorem m231_0 {d : Nat} {x1 : Int32} {x2 : Int32} {M : hp} {Q : Option Value → hp → Prop} (F : MF M) : Wp none d 231 0 [(0, .ref 126), (1, .int x1), (2, .int x2)] [] M Q = Wp none d 231 5 [(0, .ref 126), (1, .int x1), (2, .int x2)] [] (sI M 126 0 0) Q := by
  rw [k231_0 (x0 := 126) F.1]
theorem m231_9 {d : Nat} {x1 : Int32} {x2 : Int32} {s0 : Int32} {s1 : Int32} {s3 : Nat} {M : hp} {Q : Option Value → hp → Prop} (F : MF M) : Wp none d 231 9 [(0, .ref 126), (1, .int x1), (2, .int x2)] [.int s0, .int s1, .ref 126, .ref s3] M Q = Wp none d 230 0 [(0, .ref 126), (1, .int s1), (2, .int s0)] [] M (fun r M1 => Wp none d 231 12 [(0, .ref 126), (1, .int x1), (2, .int x2)] (r.toList ++ [.ref s3]) M1 Q) := by
  rw [k231_9 (x0 := 126) (s2 := 126) F.1]
theorem m231_12 {d : Nat} {x1 : Int32} {x2 : Int32} {s0 : Int32} {M : hp} {Q : Option Value → hp → Prop} (F : MF M) : Wp none d 231 12 [(0, .ref 126), (1, .int x1), (2, .int x2)] [.int s0, .ref 126] M Q = Wp none d 156 0 [(0, .ref 126), (1, .int s0)] [] M (fun r M1 => Wp none d 231 15 [(0, .ref 126), (1, .int x1), (2, .int x2)] (r.toList ++ []) M1 Q) := by
  rw [k231_12 (x0 := 126) (s1 := 126) F.1]
theorem m232_2 {d : Nat} {x1 : Int32} {M : hp} {Q : Option Value → hp → Prop} (F : MF M) (h5 : vin 0 5447 = true) : Wp none d 232 2 [(0, .ref 126), (1, .int x1)] [] M Q = Wp none d 232 9 [(0, .ref 126), (1, .int x1)] [.int (hI M 128 (0 : Int32).toNatClampNeg), .int x1] M Q := by
  rw [k232_2 (x0 := 126) F.1 (by rw [m_R3 F]; decide) (by rw [m_R3 F]; decide) (by rw [m_R3 F, m_K128 F]) (by rw [m_R3 F, m_K128 F]; exact h5)]
  simp only [m_R3 F]
theorem m232_12 {d : Nat} {x1 : Int32} {M : hp} {Q : Option Value → hp → Prop} (F : MF M) (h4 : vin x1 7 = true) : Wp none d 232 12 [(0, .ref 126), (1, .int x1)] [] M Q = Wp none d 232 19 [(0, .ref 126), (1, .int x1)] [] (sI M 147 x1.toNatClampNeg 0) Q := by
  rw [k232_12 (x0 := 126) F.1 (by rw [m_R41 F]; decide) (by rw [m_R41 F, m_K147 F]) (by rw [m_R41 F, m_K147 F]; exact h4)]
  simp only [m_R41 F]
theorem m232_21 {d : Nat} {x1 : Int32} {x2 : Int32} {M : hp} {Q : Option Value → hp → Prop} (F : MF M) (h5 : vin 0 5447 = true) : Wp none d 232 21 [(0, .ref 126), (1, .int x1), (2, .int x2)] [] M Q = Wp none d 232 28 [(0, .ref 126), (1, .int x1), (2, .int x2)] [.int (hI M 128 (0 : Int32).toNatClampNeg), .int x2] M Q := by
  rw [k232_21 (x0 := 126) F.1 (by rw [m_R3 F]; decide) (by rw [m_R3 F]; decide) (by rw [m_R3 F, m_K128 F]) (by rw [m_R3 F, m_K128 F]; exact h5)]
  simp only [m_R3 F]
theorem m232_31 {d : Nat} {x1 : Int32} {x2 : Int32} {M : hp} {Q : Option Value → hp → Prop} (F : MF M) (h5 : vin x1 7 = true) : Wp none d 232 31 [(0, .ref 126), (1, .int x1), (2, .int x2)] [] M Q = Wp none d 232 40 [(0, .ref 126), (1, .int x1), (2, .int x2)] [.int x1, .int x2, .int (hI M 147 x1.toNatClampNeg), .int x1, .ref 147] M Q := by
  rw [k232_31 (x0 := 126) F.1 (by rw [m_R41 F]; decide) (by rw [m_R41 F]; decide) (by rw [m_R41 F, m_K147 F]) (by rw [m_R41 F, m_K147 F]; exact h5)]
  simp only [m_R41 F]
theorem m232_46 {d : Nat} {x1 : Int32} {x2 : Int32} {s0 : Int32} {s1 : Int32} {s3 : Int32} {s4 : Int32} {s5 : Nat} {M : hp} {Q : Option Value → hp → Prop} (F : MF M) : Wp none d 232 46 [(0, .ref 126), (1, .int x1), (2, .int x2)] [.int s0, .int s1, .ref 126, .int s3, .int s4, .ref s5] M Q = Wp none d 171 0 [(0, .ref 126), (1, .int s1), (2, .int s0)] [] M (fun r M1 => Wp none d 232 49 [(0, .ref 126), (1, .int x1), (2, .int x2)] (r.toList ++ [.int s3, .int s4, .ref s5]) M1 Q) := by
  rw [k232_46 (x0 := 126) (s2 := 126) F.1]
theorem m232_55 {d : Nat} {x1 : Int32} {x2 : Int32} {s0 : Int32} {s1 : Int32} {s3 : Int32} {s4 : Int32} {s5 : Nat} {M : hp} {Q : Option Value → hp → Prop} (F : MF M) : Wp none d 232 55 [(0, .ref 126), (1, .int x1), (2, .int x2)] [.int s0, .int s1, .ref 126, .int s3, .int s4, .ref s5] M Q = Wp none d 223 0 [(0, .ref 126), (1, .int s1), (2, .int s0)] [] M (fun r M1 => Wp none d 232 58 [(0, .ref 126), (1, .int x1), (2, .int x2)] (r.toList ++ [.int s3, .int s4, .ref s5]) M1 Q) := by
  rw [k232_55 (x0 := 126) (s2 := 126) F.1]
theorem m232_62 {d : Nat} {x1 : Int32} {x2 : Int32} {s0 : Int32} {s1 : Int32} {s2 : Int32} {s3 : Nat} {M : hp} {Q : Option Value → hp → Prop} (F : MF M) (h1 : (hK M s3).1 = 20) (h2 : vin s2 (hK M s3).2 = true) : Wp none d 232 62 [(0, .ref 126), (1, .int x1), (2, .int x2)] [.int s0, .int s1, .int s2, .ref s3] M Q = Wp none d 232 64 [(0, .ref 126), (1, .int x1), (2, .int x2)] [] (sI M s3 s2.toNatClampNeg (s1 ||| s0)) Q := by
  rw [k232_62 (x0 := 126) h1 h2]
theorem m232_80 {d : Nat} {x1 : Int32} {x2 : Int32} {M : hp} {Q : Option Value → hp → Prop} (F : MF M) (h5 : vin 0 5447 = true) : Wp none d 232 80 [(0, .ref 126), (1, .int x1), (2, .int x2)] [] M Q = Wp none d 232 87 [(0, .ref 126), (1, .int x1), (2, .int x2)] [.int (hI M 128 (0 : Int32).toNatClampNeg), .int x2] M Q := by
  rw [k232_80 (x0 := 126) F.1 (by rw [m_R3 F]; decide) (by rw [m_R3 F]; decide) (by rw [m_R3 F, m_K128 F]) (by rw [m_R3 F, m_K128 F]; exact h5)]
  simp only [m_R3 F]
theorem m232_90 {d : Nat} {x1 : Int32} {x2 : Int32} {M : hp} {Q : Option Value → hp → Prop} (F : MF M) (h5 : vin (14 + x2) 5447 = true) (h9 : vin x2 7 = true) : Wp none d 232 90 [(0, .ref 126), (1, .int x1), (2, .int x2)] [] M Q = Wp none d 232 108 [(0, .ref 126), (1, .int x1), (2, .int x2)] [] (sI M 128 (14 + x2).toNatClampNeg ((hI M 128 (14 + x2).toNatClampNeg) ||| (hI M 147 x2.toNatClampNeg))) Q := by
  rw [k232_90 (x0 := 126) F.1 (by rw [m_R3 F]; decide) (by rw [m_R3 F]; decide) (by rw [m_R3 F, m_K128 F]) (by rw [m_R3 F, m_K128 F]; exact h5) (by rw [m_R41 F]; decide) (by rw [m_R41 F]; decide) (by rw [m_R41 F, m_K147 F]) (by rw [m_R41 F, m_K147 F]; exact h9)]
  simp only [m_R3 F, m_R41 F]
theorem m232_108 {d : Nat} {x1 : Int32} {x2 : Int32} {M : hp} {Q : Option Value → hp → Prop} (F : MF M) (h5 : vin x2 7 = true) : Wp none d 232 108 [(0, .ref 126), (1, .int x1), (2, .int x2)] [] M Q = Wp none d 232 115 [(0, .ref 126), (1, .int x1), (2, .int x2)] [.int (hI M 147 x2.toNatClampNeg), .int x1] M Q := by
  rw [k232_108 (x0 := 126) F.1 (by rw [m_R41 F]; decide) (by rw [m_R41 F]; decide) (by rw [m_R41 F, m_K147 F]) (by rw [m_R41 F, m_K147 F]; exact h5)]
  simp only [m_R41 F]
theorem m232_126 {d : Nat} {x1 : Int32} {x2 : Int32} {M : hp} {Q : Option Value → hp → Prop} (F : MF M) (h5 : vin 4 5447 = true) : Wp none d 232 126 [(0, .ref 126), (1, .int x1), (2, .int x2)] [] M Q = Wp none d 232 136 [(0, .ref 126), (1, .int x1), (2, .int x2)] [] (sI M 128 (4 : Int32).toNatClampNeg ((hI M 128 (4 : Int32).toNatClampNeg) + 1)) Q := by
  rw [k232_126 (x0 := 126) F.1 (by rw [m_R3 F]; decide) (by rw [m_R3 F]; decide) (by rw [m_R3 F, m_K128 F]) (by rw [m_R3 F, m_K128 F]; exact h5)]
  simp only [m_R3 F]
theorem m233_0 {d : Nat} {M : hp} {Q : Option Value → hp → Prop} (F : MF M) (h5 : vin 4 5447 = true) : Wp none d 233 0 [(0, .ref 126)] [] M Q = Wp none d 233 9 [(0, .ref 126)] [.int 999, .int (hI M 128 (4 : Int32).toNatClampNeg)] M Q := by
  rw [k233_0 (x0 := 126) F.1 (by rw [m_R3 F]; decide) (by rw [m_R3 F]; decide) (by rw [m_R3 F, m_K128 F]) (by rw [m_R3 F, m_K128 F]; exact h5)]
  simp only [m_R3 F]
theorem m233_17 {d : Nat} {s0 : Int32} {M : hp} {Q : Option Value → hp → Prop} (F : MF M) : Wp none d 233 17 [(0, .ref 126)] [.int s0, .ref 126] M Q = Wp none d 161 0 [(0, .ref 126), (1, .int s0)] [] M (fun r M1 => Wp none d 233 20 [(0, .ref 126)] (r.toList ++ []) M1 Q) := by
  rw [k233_17 (x0 := 126) (s1 := 126) F.1]
theorem m233_21 {d : Nat} {M : hp} {Q : Option Value → hp → Prop} (F : MF M) : Wp none d 233 21 [(0, .ref 126)] [.ref 126] M Q = Wp none d 232 0 [(0, .ref 126)] [] M (fun r M1 => Wp none d 233 24 [(0, .ref 126)] (r.toList ++ []) M1 Q) := by
  rw [k233_21 (x0 := 126) (s0 := 126) F.1]
theorem m234_0 {d : Nat} {M : hp} {Q : Option Value → hp → Prop} (F : MF M) : Wp none d 234 0 [(0, .ref 126)] [] M Q = Wp none d 234 5 [(0, .ref 126)] [] (sI M 126 0 0) Q := by
  rw [k234_0 (x0 := 126) F.1]
theorem m234_7 {d : Nat} {s1 : Nat} {M : hp} {Q : Option Value → hp → Prop} (F : MF M) : Wp none d 234 7 [(0, .ref 126)] [.ref 126, .ref s1] M Q = Wp none d 233 0 [(0, .ref 126)] [] M (fun r M1 => Wp none d 234 10 [(0, .ref 126)] (r.toList ++ [.ref s1]) M1 Q) := by
  rw [k234_7 (x0 := 126) (s0 := 126) F.1]
theorem m234_10 {d : Nat} {s0 : Int32} {M : hp} {Q : Option Value → hp → Prop} (F : MF M) : Wp none d 234 10 [(0, .ref 126)] [.int s0, .ref 126] M Q = Wp none d 156 0 [(0, .ref 126), (1, .int s0)] [] M (fun r M1 => Wp none d 234 13 [(0, .ref 126)] (r.toList ++ []) M1 Q) := by
  rw [k234_10 (x0 := 126) (s1 := 126) F.1]
theorem m235_8 {d : Nat} {x1 : Int32} {x2 : Int32} {M : hp} {Q : Option Value → hp → Prop} (F : MF M) : Wp none d 235 8 [(0, .ref 126), (1, .int x1), (2, .int x2)] [.ref 126] M Q = Wp none d 232 0 [(0, .ref 126)] [] M (fun r M1 => Wp none d 235 11 [(0, .ref 126), (1, .int x1), (2, .int x2)] (r.toList ++ []) M1 Q) := by
  rw [k235_8 (x0 := 126) (s0 := 126) F.1]
theorem m236_0 {d : Nat} {x1 : Int32} {x2 : Int32} {M : hp} {Q : Option Value → hp → Prop} (F : MF M) : Wp none d 236 0 [(0, .ref 126), (1, .int x1), (2, .int x2)] [] M Q = Wp none d 236 5 [(0, .ref 126), (1, .int x1), (2, .int x2)] [] (sI M 126 0 0) Q := by
  rw [k236_0 (x0 := 126) F.1]
theorem m236_7 {d : Nat} {x1 : Int32} {x2 : Int32} {s0 : Int32} {M : hp} {Q : Option Value → hp → Prop} (F : MF M) : Wp none d 236 7 [(0, .ref 126), (1, .int x1), (2, .int x2)] [.int s0, .ref 126] M Q = Wp none d 165 0 [(0, .ref 126), (1, .int s0)] [] M (fun r M1 => Wp none d 236 10 [(0, .ref 126), (1, .int x1), (2, .int x2)] (r.toList ++ []) M1 Q) := by
  rw [k236_7 (x0 := 126) (s1 := 126) F.1]
theorem m236_30 {d : Nat} {x1 : Int32} {x2 : Int32} {s0 : Int32} {M : hp} {Q : Option Value → hp → Prop} (F : MF M) : Wp none d 236 30 [(0, .ref 126), (1, .int x1), (2, .int x2)] [.int s0, .ref 126] M Q = Wp none d 159 0 [(0, .ref 126), (1, .int s0)] [] M (fun r M1 => Wp none d 236 33 [(0, .ref 126), (1, .int x1), (2, .int x2)] (r.toList ++ []) M1 Q) := by
  rw [k236_30 (x0 := 126) (s1 := 126) F.1]
theorem m236_35 {d : Nat} {x1 : Int32} {x2 : Int32} {s0 : Int32} {M : hp} {Q : Option Value → hp → Prop} (F : MF M) : Wp none d 236 35 [(0, .ref 126), (1, .int x1), (2, .int x2)] [.int s0, .ref 126] M Q = Wp none d 235 0 [(0, .ref 126), (1, .int s0)] [] M (fun r M1 => Wp none d 236 38 [(0, .ref 126), (1, .int x1), (2, .int x2)] (r.toList ++ []) M1 Q) := by
  rw [k236_35 (x0 := 126) (s1 := 126) F.1]
theorem m236_38 {d : Nat} {x1 : Int32} {x2 : Int32} {M : hp} {Q : Option Value → hp → Prop} (F : MF M) (h5 : vin (14 + x1) 5447 = true) : Wp none d 236 38 [(0, .ref 126), (1, .int x1), (2, .int x2)] [] M Q = Wp none d 236 51 [(0, .ref 126), (1, .int x1), (2, .int x2), (3, .int (hI M 128 (14 + x1).toNatClampNeg))] [.int 16, .ref 126] M Q := by
  rw [k236_38 (x0 := 126) F.1 (by rw [m_R3 F]; decide) (by rw [m_R3 F]; decide) (by rw [m_R3 F, m_K128 F]) (by rw [m_R3 F, m_K128 F]; exact h5)]
  simp only [m_R3 F]
theorem m236_51 {d : Nat} {x1 : Int32} {x2 : Int32} {x3 : Int32} {s0 : Int32} {M : hp} {Q : Option Value → hp → Prop} (F : MF M) : Wp none d 236 51 [(0, .ref 126), (1, .int x1), (2, .int x2), (3, .int x3)] [.int s0, .ref 126] M Q = Wp none d 160 0 [(0, .ref 126), (1, .int s0)] [] M (fun r M1 => Wp none d 236 54 [(0, .ref 126), (1, .int x1), (2, .int x2), (3, .int x3)] (r.toList ++ []) M1 Q) := by
  rw [k236_51 (x0 := 126) (s1 := 126) F.1]
theorem m237_0 {d : Nat} {x1 : Int32} {x2 : Int32} {M : hp} {Q : Option Value → hp → Prop} (F : MF M) : Wp none d 237 0 [(0, .ref 126), (1, .int x1), (2, .int x2)] [] M Q = Wp none d 237 5 [(0, .ref 126), (1, .int x1), (2, .int x2)] [] (sI M 126 0 0) Q := by
  rw [k237_0 (x0 := 126) F.1]
theorem m237_7 {d : Nat} {x1 : Int32} {x2 : Int32} {s0 : Int32} {M : hp} {Q : Option Value → hp → Prop} (F : MF M) : Wp none d 237 7 [(0, .ref 126), (1, .int x1), (2, .int x2)] [.int s0, .ref 126] M Q = Wp none d 165 0 [(0, .ref 126), (1, .int s0)] [] M (fun r M1 => Wp none d 237 10 [(0, .ref 126), (1, .int x1), (2, .int x2)] (r.toList ++ []) M1 Q) := by
  rw [k237_7 (x0 := 126) (s1 := 126) F.1]
theorem m237_25 {d : Nat} {x1 : Int32} {x2 : Int32} {s0 : Int32} {M : hp} {Q : Option Value → hp → Prop} (F : MF M) : Wp none d 237 25 [(0, .ref 126), (1, .int x1), (2, .int x2)] [.int s0, .ref 126] M Q = Wp none d 159 0 [(0, .ref 126), (1, .int s0)] [] M (fun r M1 => Wp none d 237 28 [(0, .ref 126), (1, .int x1), (2, .int x2)] (r.toList ++ []) M1 Q) := by
  rw [k237_25 (x0 := 126) (s1 := 126) F.1]
theorem m237_39 {d : Nat} {x1 : Int32} {x2 : Int32} {x3 : Int32} {s0 : Int32} {s1 : Int32} {M : hp} {Q : Option Value → hp → Prop} (F : MF M) : Wp none d 237 39 [(0, .ref 126), (1, .int x1), (2, .int x2), (3, .int x3)] [.int s0, .int s1, .ref 126] M Q = Wp none d 169 0 [(0, .ref 126), (1, .int s1), (2, .int s0)] [] M (fun r M1 => Wp none d 237 42 [(0, .ref 126), (1, .int x1), (2, .int x2), (3, .int x3)] (r.toList ++ []) M1 Q) := by
  rw [k237_39 (x0 := 126) (s2 := 126) F.1]
theorem m237_46 {d : Nat} {x1 : Int32} {x2 : Int32} {x3 : Int32} {M : hp} {Q : Option Value → hp → Prop} (F : MF M) : Wp none d 237 46 [(0, .ref 126), (1, .int x1), (2, .int x2), (3, .int x3)] [.ref 126] M Q = Wp none d 232 0 [(0, .ref 126)] [] M (fun r M1 => Wp none d 237 49 [(0, .ref 126), (1, .int x1), (2, .int x2), (3, .int x3)] (r.toList ++ []) M1 Q) := by
  rw [k237_46 (x0 := 126) (s0 := 126) F.1]
theorem m237_59 {d : Nat} {x1 : Int32} {x2 : Int32} {x3 : Int32} {s0 : Int32} {s1 : Int32} {M : hp} {Q : Option Value → hp → Prop} (F : MF M) : Wp none d 237 59 [(0, .ref 126), (1, .int x1), (2, .int x2), (3, .int x3)] [.int s0, .int s1, .ref 126] M Q = Wp none d 169 0 [(0, .ref 126), (1, .int s1), (2, .int s0)] [] M (fun r M1 => Wp none d 237 62 [(0, .ref 126), (1, .int x1), (2, .int x2), (3, .int x3)] (r.toList ++ []) M1 Q) := by
  rw [k237_59 (x0 := 126) (s2 := 126) F.1]
theorem m237_75 {d : Nat} {x1 : Int32} {x2 : Int32} {x3 : Int32} {x4 : Int32} {s0 : Int32} {M : hp} {Q : Option Value → hp → Prop} (F : MF M) : Wp none d 237 75 [(0, .ref 126), (1, .int x1), (2, .int x2), (3, .int x3), (4, .int x4)] [.int s0, .ref 126] M Q = Wp none d 160 0 [(0, .ref 126), (1, .int s0)] [] M (fun r M1 => Wp none d 237 78 [(0, .ref 126), (1, .int x1), (2, .int x2), (3, .int x3), (4, .int x4)] (r.toList ++ []) M1 Q) := by
  rw [k237_75 (x0 := 126) (s1 := 126) F.1]
theorem m238_0 {d : Nat} {M : hp} {Q : Option Value → hp → Prop} (F : MF M) : Wp none d 238 0 [(0, .ref 126)] [] M Q = Wp none d 238 5 [(0, .ref 126)] [] (sI M 126 0 0) Q := by
  rw [k238_0 (x0 := 126) F.1]
theorem m238_8 {d : Nat} {s0 : Int32} {M : hp} {Q : Option Value → hp → Prop} (F : MF M) : Wp none d 238 8 [(0, .ref 126)] [.int s0, .ref 126] M Q = Wp none d 159 0 [(0, .ref 126), (1, .int s0)] [] M (fun r M1 => Wp none d 238 11 [(0, .ref 126)] (r.toList ++ []) M1 Q) := by
  rw [k238_8 (x0 := 126) (s1 := 126) F.1]
theorem m238_22 {d : Nat} {x1 : Int32} {x2 : Int32} {M : hp} {Q : Option Value → hp → Prop} (F : MF M) : Wp none d 238 22 [(0, .ref 126), (1, .int x1), (2, .int x2)] [.ref 126] M Q = Wp none d 232 0 [(0, .ref 126)] [] M (fun r M1 => Wp none d 238 25 [(0, .ref 126), (1, .int x1), (2, .int x2)] (r.toList ++ []) M1 Q) := by
  rw [k238_22 (x0 := 126) (s0 := 126) F.1]
theorem m238_43 {d : Nat} {x1 : Int32} {x2 : Int32} {s0 : Int32} {M : hp} {Q : Option Value → hp → Prop} (F : MF M) : Wp none d 238 43 [(0, .ref 126), (1, .int x1), (2, .int x2)] [.int s0, .ref 126] M Q = Wp none d 160 0 [(0, .ref 126), (1, .int s0)] [] M (fun r M1 => Wp none d 238 46 [(0, .ref 126), (1, .int x1), (2, .int x2)] (r.toList ++ []) M1 Q) := by
  rw [k238_43 (x0 := 126) (s1 := 126) F.1]
theorem m239_6 {d : Nat} {x1 : Int32} {x2 : Int32} {x3 : Int32} {x4 : Int32} {x5 : Int32} {M : hp} {Q : Option Value → hp → Prop} (F : MF M) (h5 : vin 0 5447 = true) : Wp none d 239 6 [(0, .ref 126), (1, .int x1), (2, .int x2), (3, .int x3), (4, .int x4), (5, .int x5)] [] M Q = Wp none d 239 14 [(0, .ref 126), (1, .int x1), (2, .int x2), (3, .int x3), (4, .int x4), (5, .int x5)] [.int (hI M 128 (0 : Int32).toNatClampNeg), .int x5] M Q := by
  rw [k239_6 (x0 := 126) F.1 (by rw [m_R3 F]; decide) (by rw [m_R3 F]; decide) (by rw [m_R3 F, m_K128 F]) (by rw [m_R3 F, m_K128 F]; exact h5)]
  simp only [m_R3 F]
theorem m239_35 {d : Nat} {x1 : Int32} {x2 : Int32} {x3 : Int32} {x4 : Int32} {x5 : Int32} {s0 : Int32} {s1 : Int32} {s3 : Int32} {M : hp} {Q : Option Value → hp → Prop} (F : MF M) : Wp none d 239 35 [(0, .ref 126), (1, .int x1), (2, .int x2), (3, .int x3), (4, .int x4), (5, .int x5)] [.int s0, .int s1, .ref 126, .int s3] M Q = Wp none d 169 0 [(0, .ref 126), (1, .int s1), (2, .int s0)] [] M (fun r M1 => Wp none d 239 38 [(0, .ref 126), (1, .int x1), (2, .int x2), (3, .int x3), (4, .int x4), (5, .int x5)] (r.toList ++ [.int s3]) M1 Q) := by
  rw [k239_35 (x0 := 126) (s2 := 126) F.1]
theorem m240_0 {d : Nat} {x1 : Int32} {x2 : Int32} {x3 : Int32} {x4 : Int32} {M : hp} {Q : Option Value → hp → Prop} (F : MF M) : Wp none d 240 0 [(0, .ref 126), (1, .int x1), (2, .int x2), (3, .int x3), (4, .int x4)] [] M Q = Wp none d 240 5 [(0, .ref 126), (1, .int x1), (2, .int x2), (3, .int x3), (4, .int x4)] [] (sI M 126 0 0) Q := by
  rw [k240_0 (x0 := 126) F.1]
theorem m240_7 {d : Nat} {x1 : Int32} {x2 : Int32} {x3 : Int32} {x4 : Int32} {s0 : Int32} {M : hp} {Q : Option Value → hp → Prop} (F : MF M) : Wp none d 240 7 [(0, .ref 126), (1, .int x1), (2, .int x2), (3, .int x3), (4, .int x4)] [.int s0, .ref 126] M Q = Wp none d 165 0 [(0, .ref 126), (1, .int s0)] [] M (fun r M1 => Wp none d 240 10 [(0, .ref 126), (1, .int x1), (2, .int x2), (3, .int x3), (4, .int x4)] (r.toList ++ []) M1 Q) := by
  rw [k240_7 (x0 := 126) (s1 := 126) F.1]
theorem m240_22 {d : Nat} {x1 : Int32} {x2 : Int32} {x3 : Int32} {x4 : Int32} {s0 : Int32} {M : hp} {Q : Option Value → hp → Prop} (F : MF M) : Wp none d 240 22 [(0, .ref 126), (1, .int x1), (2, .int x2), (3, .int x3), (4, .int x4)] [.int s0, .ref 126] M Q = Wp none d 165 0 [(0, .ref 126), (1, .int s0)] [] M (fun r M1 => Wp none d 240 25 [(0, .ref 126), (1, .int x1), (2, .int x2), (3, .int x3), (4, .int x4)] (r.toList ++ []) M1 Q) := by
  rw [k240_22 (x0 := 126) (s1 := 126) F.1]
theorem m240_59 {d : Nat} {x1 : Int32} {x2 : Int32} {x3 : Int32} {x4 : Int32} {x5 : Int32} {x6 : Int32} {s0 : Int32} {M : hp} {Q : Option Value → hp → Prop} (F : MF M) : Wp none d 240 59 [(0, .ref 126), (1, .int x1), (2, .int x2), (3, .int x3), (4, .int x4), (5, .int x5), (6, .int x6)] [.int s0, .ref 126] M Q = Wp none d 159 0 [(0, .ref 126), (1, .int s0)] [] M (fun r M1 => Wp none d 240 62 [(0, .ref 126), (1, .int x1), (2, .int x2), (3, .int x3), (4, .int x4), (5, .int x5), (6, .int x6)] (r.toList ++ []) M1 Q) := by
  rw [k240_59 (x0 := 126) (s1 := 126) F.1]
theorem m240_75 {d : Nat} {x1 : Int32} {x2 : Int32} {x3 : Int32} {x4 : Int32} {x5 : Int32} {x6 : Int32} {x7 : Int32} {s0 : Int32} {M : hp} {Q : Option Value → hp → Prop} (F : MF M) : Wp none d 240 75 [(0, .ref 126), (1, .int x1), (2, .int x2), (3, .int x3), (4, .int x4), (5, .int x5), (6, .int x6), (7, .int x7)] [.int s0, .ref 126] M Q = Wp none d 170 0 [(0, .ref 126), (1, .int s0)] [] M (fun r M1 => Wp none d 240 78 [(0, .ref 126), (1, .int x1), (2, .int x2), (3, .int x3), (4, .int x4), (5, .int x5), (6, .int x6), (7, .int x7)] (r.toList ++ []) M1 Q) := by
  rw [k240_75 (x0 := 126) (s1 := 126) F.1]
theorem m240_92 {d : Nat} {x1 : Int32} {x2 : Int32} {x3 : Int32} {x4 : Int32} {x5 : Int32} {x6 : Int32} {x7 : Int32} {x8 : Int32} {M : hp} {Q : Option Value → hp → Prop} (F : MF M) (h4 : vin (7 + x1) 5447 = true) : Wp none d 240 92 [(0, .ref 126), (1, .int x1), (2, .int x2), (3, .int x3), (4, .int x4), (5, .int x5), (6, .int x6), (7, .int x7), (8, .int x8)] [] M Q = Wp none d 240 103 [(0, .ref 126), (1, .int x1), (2, .int x2), (3, .int x3), (4, .int x4), (5, .int x5), (6, .int x6), (7, .int x7), (8, .int x8)] [] (sI M 128 (7 + x1).toNatClampNeg x7) Q := by
  rw [k240_92 (x0 := 126) F.1 (by rw [m_R3 F]; decide) (by rw [m_R3 F, m_K128 F]) (by rw [m_R3 F, m_K128 F]; exact h4)]
  simp only [m_R3 F]
theorem m240_106 {d : Nat} {x1 : Int32} {x2 : Int32} {x3 : Int32} {x4 : Int32} {x5 : Int32} {x6 : Int32} {x7 : Int32} {x8 : Int32} {s0 : Int32} {M : hp} {Q : Option Value → hp → Prop} (F : MF M) : Wp none d 240 106 [(0, .ref 126), (1, .int x1), (2, .int x2), (3, .int x3), (4, .int x4), (5, .int x5), (6, .int x6), (7, .int x7), (8, .int x8)] [.int s0, .ref 126] M Q = Wp none d 235 0 [(0, .ref 126), (1, .int s0)] [] M (fun r M1 => Wp none d 240 109 [(0, .ref 126), (1, .int x1), (2, .int x2), (3, .int x3), (4, .int x4), (5, .int x5), (6, .int x6), (7, .int x7), (8, .int x8)] (r.toList ++ []) M1 Q) := by
  rw [k240_106 (x0 := 126) (s1 := 126) F.1]
