theorem x_K64 {M : hp} (H : XS M) : (hK M 64).1 = 8 := H.1.1
theorem x_K65 {M : hp} (H : XS M) : (hK M 65).1 = 0 := H.2.1.2.1
theorem x_K66 {M : hp} (H : XS M) : hK M 66 = (20, 7) := H.2.1.2.2.2.2.2.2.2.1
theorem x_K67 {M : hp} (H : XS M) : hK M 67 = (20, 7) := H.2.1.2.2.2.2.2.2.2.2.1
theorem x_K68 {M : hp} (H : XS M) : hK M 68 = (20, 7) := H.2.1.2.2.2.2.2.2.2.2.2.1
theorem x_K69 {M : hp} (H : XS M) : hK M 69 = (20, 7) := H.2.1.2.2.2.2.2.2.2.2.2.2.1
theorem x_K70 {M : hp} (H : XS M) : hK M 70 = (23, 6) := H.2.1.2.2.2.2.2.2.2.2.2.2.2
theorem x_K71 {M : hp} (H : XS M) : (hK M 71).1 = 0 := H.2.2.1.2.1
theorem x_K72 {M : hp} (H : XS M) : hK M 72 = (20, 7) := H.2.2.1.2.2.2.2.2.2.2.1
theorem x_K73 {M : hp} (H : XS M) : hK M 73 = (20, 7) := H.2.2.1.2.2.2.2.2.2.2.2.1
theorem x_K74 {M : hp} (H : XS M) : hK M 74 = (20, 7) := H.2.2.1.2.2.2.2.2.2.2.2.2.1
theorem x_K75 {M : hp} (H : XS M) : hK M 75 = (20, 7) := H.2.2.1.2.2.2.2.2.2.2.2.2.2.1
theorem x_K76 {M : hp} (H : XS M) : hK M 76 = (23, 6) := H.2.2.1.2.2.2.2.2.2.2.2.2.2.2
theorem x_K77 {M : hp} (H : XS M) : (hK M 77).1 = 0 := H.2.2.2.1.2.1
theorem x_K78 {M : hp} (H : XS M) : hK M 78 = (20, 7) := H.2.2.2.1.2.2.2.2.2.2.2.1
theorem x_K79 {M : hp} (H : XS M) : hK M 79 = (20, 7) := H.2.2.2.1.2.2.2.2.2.2.2.2.1
theorem x_K80 {M : hp} (H : XS M) : hK M 80 = (20, 7) := H.2.2.2.1.2.2.2.2.2.2.2.2.2.1
theorem x_K81 {M : hp} (H : XS M) : hK M 81 = (20, 7) := H.2.2.2.1.2.2.2.2.2.2.2.2.2.2.1
theorem x_K82 {M : hp} (H : XS M) : hK M 82 = (23, 6) := H.2.2.2.1.2.2.2.2.2.2.2.2.2.2.2
theorem x_K83 {M : hp} (H : XS M) : (hK M 83).1 = 0 := H.2.2.2.2.1.2.1
theorem x_K84 {M : hp} (H : XS M) : hK M 84 = (20, 7) := H.2.2.2.2.1.2.2.2.2.2.2.2.1
theorem x_K85 {M : hp} (H : XS M) : hK M 85 = (20, 7) := H.2.2.2.2.1.2.2.2.2.2.2.2.2.1
theorem x_K86 {M : hp} (H : XS M) : hK M 86 = (20, 7) := H.2.2.2.2.1.2.2.2.2.2.2.2.2.2.1
theorem x_K87 {M : hp} (H : XS M) : hK M 87 = (20, 7) := H.2.2.2.2.1.2.2.2.2.2.2.2.2.2.2.1
theorem x_K88 {M : hp} (H : XS M) : hK M 88 = (23, 6) := H.2.2.2.2.1.2.2.2.2.2.2.2.2.2.2.2
theorem x_K89 {M : hp} (H : XS M) : hK M 89 = (24, 2) := H.2.2.2.2.2.2.2.2.2.2.2.2.2.2.2.2.2.1
theorem x_K90 {M : hp} (H : XS M) : (hK M 90).1 = 0 := H.2.2.2.2.2.1.2.1
theorem x_K91 {M : hp} (H : XS M) : hK M 91 = (20, 7) := H.2.2.2.2.2.1.2.2.2.2.2.2.2.1
theorem x_K92 {M : hp} (H : XS M) : hK M 92 = (20, 7) := H.2.2.2.2.2.1.2.2.2.2.2.2.2.2.1
theorem x_K93 {M : hp} (H : XS M) : hK M 93 = (20, 7) := H.2.2.2.2.2.1.2.2.2.2.2.2.2.2.2.1
theorem x_K94 {M : hp} (H : XS M) : hK M 94 = (20, 7) := H.2.2.2.2.2.1.2.2.2.2.2.2.2.2.2.2.1
theorem x_K95 {M : hp} (H : XS M) : hK M 95 = (23, 6) := H.2.2.2.2.2.1.2.2.2.2.2.2.2.2.2.2.2
theorem x_K96 {M : hp} (H : XS M) : (hK M 96).1 = 0 := H.2.2.2.2.2.2.1.2.1
theorem x_K97 {M : hp} (H : XS M) : hK M 97 = (20, 7) := H.2.2.2.2.2.2.1.2.2.2.2.2.2.2.1
theorem x_K98 {M : hp} (H : XS M) : hK M 98 = (20, 7) := H.2.2.2.2.2.2.1.2.2.2.2.2.2.2.2.1
theorem x_K99 {M : hp} (H : XS M) : hK M 99 = (20, 7) := H.2.2.2.2.2.2.1.2.2.2.2.2.2.2.2.2.1
theorem x_K100 {M : hp} (H : XS M) : hK M 100 = (20, 7) := H.2.2.2.2.2.2.1.2.2.2.2.2.2.2.2.2.2.1
theorem x_K101 {M : hp} (H : XS M) : hK M 101 = (23, 6) := H.2.2.2.2.2.2.1.2.2.2.2.2.2.2.2.2.2.2
theorem x_K102 {M : hp} (H : XS M) : hK M 102 = (22, 2) := H.2.2.2.2.2.2.2.2.2.2.2.2.2.2.2.2.1
theorem x_K103 {M : hp} (H : XS M) : (hK M 103).1 = 3 := H.2.2.2.2.2.2.2.1.2.1
theorem x_K104 {M : hp} (H : XS M) : hK M 104 = (20, 256) := H.2.2.2.2.2.2.2.1.2.2.2
theorem x_K105 {M : hp} (H : XS M) : (hK M 105).1 = 3 := H.2.2.2.2.2.2.2.2.1.2.1
theorem x_K106 {M : hp} (H : XS M) : hK M 106 = (20, 256) := H.2.2.2.2.2.2.2.2.1.2.2.2
theorem x_K107 {M : hp} (H : XS M) : (hK M 107).1 = 6 := H.2.2.2.2.2.2.2.2.2.1.2.1
theorem x_K108 {M : hp} (H : XS M) : hK M 108 = (20, 400) := H.2.2.2.2.2.2.2.2.2.1.2.2.2
theorem x_K109 {M : hp} (H : XS M) : (hK M 109).1 = 5 := H.2.2.2.2.2.2.2.2.2.2.1.1
theorem x_K110 {M : hp} (H : XS M) : (hK M 110).1 = 7 := H.2.2.2.2.2.2.2.2.2.2.1.2.2.2.1
theorem x_K113 {M : hp} (H : XS M) : (hK M 113).1 = 1 := H.2.2.2.2.2.2.2.2.2.2.2.1.2.1
theorem x_K116 {M : hp} (H : XS M) : (hK M 116).1 = 2 := H.2.2.2.2.2.2.2.2.2.2.2.2.1.2.1
theorem x_K122 {M : hp} (H : XS M) : (hK M 122).1 = 4 := H.2.2.2.2.2.2.2.2.2.2.2.2.2.1.2.1
theorem x_K124 {M : hp} (H : XS M) : hK M 124 = (21, 20) := H.2.2.2.2.2.2.2.2.2.2.2.2.2.2.1
theorem x_K125 {M : hp} (H : XS M) : hK M 125 = (20, 5) := H.2.2.2.2.2.2.2.2.2.2.2.2.2.2.2.1
theorem x_R64_0 {M : hp} (H : XS M) : hR M 64 0 = 65 := H.1.2.1
theorem x_R64_1 {M : hp} (H : XS M) : hR M 64 1 = 71 := H.1.2.2.1
theorem x_R64_2 {M : hp} (H : XS M) : hR M 64 2 = 77 := H.1.2.2.2.1
theorem x_R64_3 {M : hp} (H : XS M) : hR M 64 3 = 83 := H.1.2.2.2.2.1
theorem x_R64_4 {M : hp} (H : XS M) : hR M 64 4 = 89 := H.1.2.2.2.2.2.1
theorem x_R64_5 {M : hp} (H : XS M) : hR M 64 5 = 102 := H.1.2.2.2.2.2.2.1
theorem x_R64_6 {M : hp} (H : XS M) : hR M 64 6 = 103 := H.1.2.2.2.2.2.2.2.1
theorem x_R64_7 {M : hp} (H : XS M) : hR M 64 7 = 105 := H.1.2.2.2.2.2.2.2.2.1
theorem x_R64_8 {M : hp} (H : XS M) : hR M 64 8 = 107 := H.1.2.2.2.2.2.2.2.2.2.1
theorem x_R64_9 {M : hp} (H : XS M) : hR M 64 9 = 109 := H.1.2.2.2.2.2.2.2.2.2.2.1
theorem x_R64_10 {M : hp} (H : XS M) : hR M 64 10 = 113 := H.1.2.2.2.2.2.2.2.2.2.2.2.1
theorem x_R64_11 {M : hp} (H : XS M) : hR M 64 11 = 116 := H.1.2.2.2.2.2.2.2.2.2.2.2.2.1
theorem x_R64_12 {M : hp} (H : XS M) : hR M 64 12 = 122 := H.1.2.2.2.2.2.2.2.2.2.2.2.2.2.1
theorem x_R64_13 {M : hp} (H : XS M) : hR M 64 13 = 124 := H.1.2.2.2.2.2.2.2.2.2.2.2.2.2.2.1
theorem x_R64_14 {M : hp} (H : XS M) : hR M 64 14 = 125 := H.1.2.2.2.2.2.2.2.2.2.2.2.2.2.2.2
theorem x_R65_0 {M : hp} (H : XS M) : hR M 65 0 = 66 := H.2.1.2.2.1
theorem x_R65_1 {M : hp} (H : XS M) : hR M 65 1 = 67 := H.2.1.2.2.2.1
theorem x_R65_2 {M : hp} (H : XS M) : hR M 65 2 = 68 := H.2.1.2.2.2.2.1
theorem x_R65_3 {M : hp} (H : XS M) : hR M 65 3 = 69 := H.2.1.2.2.2.2.2.1
theorem x_R65_4 {M : hp} (H : XS M) : hR M 65 4 = 70 := H.2.1.2.2.2.2.2.2.1
theorem x_R71_0 {M : hp} (H : XS M) : hR M 71 0 = 72 := H.2.2.1.2.2.1
theorem x_R71_1 {M : hp} (H : XS M) : hR M 71 1 = 73 := H.2.2.1.2.2.2.1
theorem x_R71_2 {M : hp} (H : XS M) : hR M 71 2 = 74 := H.2.2.1.2.2.2.2.1
theorem x_R71_3 {M : hp} (H : XS M) : hR M 71 3 = 75 := H.2.2.1.2.2.2.2.2.1
theorem x_R71_4 {M : hp} (H : XS M) : hR M 71 4 = 76 := H.2.2.1.2.2.2.2.2.2.1
theorem x_R77_0 {M : hp} (H : XS M) : hR M 77 0 = 78 := H.2.2.2.1.2.2.1
theorem x_R77_1 {M : hp} (H : XS M) : hR M 77 1 = 79 := H.2.2.2.1.2.2.2.1
theorem x_R77_2 {M : hp} (H : XS M) : hR M 77 2 = 80 := H.2.2.2.1.2.2.2.2.1
theorem x_R77_3 {M : hp} (H : XS M) : hR M 77 3 = 81 := H.2.2.2.1.2.2.2.2.2.1
theorem x_R77_4 {M : hp} (H : XS M) : hR M 77 4 = 82 := H.2.2.2.1.2.2.2.2.2.2.1
theorem x_R83_0 {M : hp} (H : XS M) : hR M 83 0 = 84 := H.2.2.2.2.1.2.2.1
theorem x_R83_1 {M : hp} (H : XS M) : hR M 83 1 = 85 := H.2.2.2.2.1.2.2.2.1
theorem x_R83_2 {M : hp} (H : XS M) : hR M 83 2 = 86 := H.2.2.2.2.1.2.2.2.2.1
theorem x_R83_3 {M : hp} (H : XS M) : hR M 83 3 = 87 := H.2.2.2.2.1.2.2.2.2.2.1
theorem x_R83_4 {M : hp} (H : XS M) : hR M 83 4 = 88 := H.2.2.2.2.1.2.2.2.2.2.2.1
theorem x_R89_0 {M : hp} (H : XS M) : hR M 89 0 = 90 := H.2.2.2.2.2.2.2.2.2.2.2.2.2.2.2.2.2.2.1
theorem x_R89_1 {M : hp} (H : XS M) : hR M 89 1 = 96 := H.2.2.2.2.2.2.2.2.2.2.2.2.2.2.2.2.2.2.2
theorem x_R90_0 {M : hp} (H : XS M) : hR M 90 0 = 91 := H.2.2.2.2.2.1.2.2.1
theorem x_R90_1 {M : hp} (H : XS M) : hR M 90 1 = 92 := H.2.2.2.2.2.1.2.2.2.1
theorem x_R90_2 {M : hp} (H : XS M) : hR M 90 2 = 93 := H.2.2.2.2.2.1.2.2.2.2.1
theorem x_R90_3 {M : hp} (H : XS M) : hR M 90 3 = 94 := H.2.2.2.2.2.1.2.2.2.2.2.1
theorem x_R90_4 {M : hp} (H : XS M) : hR M 90 4 = 95 := H.2.2.2.2.2.1.2.2.2.2.2.2.1
theorem x_R96_0 {M : hp} (H : XS M) : hR M 96 0 = 97 := H.2.2.2.2.2.2.1.2.2.1
theorem x_R96_1 {M : hp} (H : XS M) : hR M 96 1 = 98 := H.2.2.2.2.2.2.1.2.2.2.1
theorem x_R96_2 {M : hp} (H : XS M) : hR M 96 2 = 99 := H.2.2.2.2.2.2.1.2.2.2.2.1
theorem x_R96_3 {M : hp} (H : XS M) : hR M 96 3 = 100 := H.2.2.2.2.2.2.1.2.2.2.2.2.1
theorem x_R96_4 {M : hp} (H : XS M) : hR M 96 4 = 101 := H.2.2.2.2.2.2.1.2.2.2.2.2.2.1
theorem x_R103_0 {M : hp} (H : XS M) : hR M 103 0 = 104 := H.2.2.2.2.2.2.2.1.2.2.1
theorem x_R105_0 {M : hp} (H : XS M) : hR M 105 0 = 106 := H.2.2.2.2.2.2.2.2.1.2.2.1
theorem x_R107_0 {M : hp} (H : XS M) : hR M 107 0 = 108 := H.2.2.2.2.2.2.2.2.2.1.2.2.1
theorem x_R109_0 {M : hp} (H : XS M) : hR M 109 0 = 107 := H.2.2.2.2.2.2.2.2.2.2.1.2.1
theorem x_R109_1 {M : hp} (H : XS M) : hR M 109 1 = 110 := H.2.2.2.2.2.2.2.2.2.2.1.2.2.1
theorem x91_10 {d : Nat} {x1 : Int32} {x2 : Int32} {s0 : Int32} {M : hp} {Q : Option Value → hp → Prop} (H : XS M) : Wp none d 91 10 [(0, .ref 64), (1, .int x1), (2, .int x2)] [.int s0, .ref 64] M Q = Wp none d 130 0 [(0, .ref 64), (1, .int s0)] [] M (fun r M1 => Wp none d 91 13 [(0, .ref 64), (1, .int x1), (2, .int x2)] (r.toList ++ []) M1 Q) := by
  rw [k91_10 (x0 := 64) (s1 := 64) (by rw [x_K64 H])]
theorem x91_14 {d : Nat} {x1 : Int32} {x2 : Int32} {M : hp} {Q : Option Value → hp → Prop} (H : XS M) : Wp none d 91 14 [(0, .ref 64), (1, .int x1), (2, .int x2)] [] M Q = Wp none d 91 23 [(0, .ref 64), (1, .int x1), (2, .int x2)] [.int 7, .int (hI M 65 8)] M Q := by
  rw [k91_14 (x0 := 64) (by rw [x_K64 H]) (by rw [x_R64_0 H]; decide) (by rw [x_R64_0 H, x_K65 H])]
  simp only [x_R64_0 H]
theorem x91_29 {d : Nat} {x1 : Int32} {x2 : Int32} {s0 : Int32} {M : hp} {Q : Option Value → hp → Prop} (H : XS M) : Wp none d 91 29 [(0, .ref 64), (1, .int x1), (2, .int x2)] [.int s0, .ref 64] M Q = Wp none d 130 0 [(0, .ref 64), (1, .int s0)] [] M (fun r M1 => Wp none d 91 32 [(0, .ref 64), (1, .int x1), (2, .int x2)] (r.toList ++ []) M1 Q) := by
  rw [k91_29 (x0 := 64) (s1 := 64) (by rw [x_K64 H])]
theorem x91_33 {d : Nat} {x1 : Int32} {x2 : Int32} {M : hp} {Q : Option Value → hp → Prop} (H : XS M) : Wp none d 91 33 [(0, .ref 64), (1, .int x1), (2, .int x2)] [] M Q = Wp none d 91 37 [(0, .ref 64), (1, .int x1), (2, .int x2)] [.ref 103] M Q := by
  rw [k91_33 (x0 := 64) (by rw [x_K64 H]) (by rw [x_R64_6 H]; decide)]
  simp only [x_R64_6 H]
theorem x91_37 {d : Nat} {x1 : Int32} {x2 : Int32} {s0 : Nat} {M : hp} {Q : Option Value → hp → Prop} (H : XS M) (h1 : (hK M s0).1 = 3) : Wp none d 91 37 [(0, .ref 64), (1, .int x1), (2, .int x2)] [.ref s0] M Q = Wp none d 44 0 [(0, .ref s0)] [] M (fun r M1 => Wp none d 91 40 [(0, .ref 64), (1, .int x1), (2, .int x2)] (r.toList ++ []) M1 Q) := by
  rw [k91_37 (x0 := 64) h1]
theorem x91_40 {d : Nat} {x1 : Int32} {x2 : Int32} {M : hp} {Q : Option Value → hp → Prop} (H : XS M) : Wp none d 91 40 [(0, .ref 64), (1, .int x1), (2, .int x2)] [] M Q = Wp none d 91 47 [(0, .ref 64), (1, .int x1), (2, .int x2)] [.int 0, .int x2, .int x1, .ref 65] M Q := by
  rw [k91_40 (x0 := 64) (by rw [x_K64 H]) (by rw [x_R64_0 H]; decide)]
  simp only [x_R64_0 H]
theorem x91_47 {d : Nat} {x1 : Int32} {x2 : Int32} {s0 : Int32} {s1 : Int32} {s2 : Int32} {s3 : Nat} {M : hp} {Q : Option Value → hp → Prop} (H : XS M) (h1 : (hK M s3).1 = 0) : Wp none d 91 47 [(0, .ref 64), (1, .int x1), (2, .int x2)] [.int s0, .int s1, .int s2, .ref s3] M Q = Wp none d 5 0 [(0, .ref s3), (1, .int s2), (2, .int s1), (3, .int s0)] [] M (fun r M1 => Wp none d 91 50 [(0, .ref 64), (1, .int x1), (2, .int x2)] (r.toList ++ []) M1 Q) := by
  rw [k91_47 (x0 := 64) h1]
theorem x91_50 {d : Nat} {x1 : Int32} {x2 : Int32} {M : hp} {Q : Option Value → hp → Prop} (H : XS M) : Wp none d 91 50 [(0, .ref 64), (1, .int x1), (2, .int x2)] [] M Q = Wp none d 91 60 [(0, .ref 64), (1, .int x1), (2, .int x2)] [.int ((hI M 65 8) - 1), .ref 64] M Q := by
  rw [k91_50 (x0 := 64) (by rw [x_K64 H]) (by rw [x_R64_0 H]; decide) (by rw [x_R64_0 H, x_K65 H])]
  simp only [x_R64_0 H]
theorem x91_60 {d : Nat} {x1 : Int32} {x2 : Int32} {s0 : Int32} {M : hp} {Q : Option Value → hp → Prop} (H : XS M) : Wp none d 91 60 [(0, .ref 64), (1, .int x1), (2, .int x2)] [.int s0, .ref 64] M Q = Wp none d 131 0 [(0, .ref 64), (1, .int s0)] [] M (fun r M1 => Wp none d 91 63 [(0, .ref 64), (1, .int x1), (2, .int x2)] (r.toList ++ []) M1 Q) := by
  rw [k91_60 (x0 := 64) (s1 := 64) (by rw [x_K64 H])]
theorem x92_0 {d : Nat} {x1 : Int32} {x2 : Int32} {M : hp} {Q : Option Value → hp → Prop} (H : XS M) : Wp none d 92 0 [(0, .ref 64), (1, .int x1), (2, .int x2)] [] M Q = Wp none d 92 5 [(0, .ref 64), (1, .int x1), (2, .int x2)] [.int x1, .ref 65] M Q := by
  rw [k92_0 (x0 := 64) (by rw [x_K64 H]) (by rw [x_R64_0 H]; decide)]
  simp only [x_R64_0 H]
theorem x92_5 {d : Nat} {x1 : Int32} {x2 : Int32} {s0 : Int32} {s1 : Nat} {M : hp} {Q : Option Value → hp → Prop} (H : XS M) (h1 : (hK M s1).1 = 0) : Wp none d 92 5 [(0, .ref 64), (1, .int x1), (2, .int x2)] [.int s0, .ref s1] M Q = Wp none d 7 0 [(0, .ref s1), (1, .int s0)] [] M (fun r M1 => Wp none d 92 8 [(0, .ref 64), (1, .int x1), (2, .int x2)] (r.toList ++ []) M1 Q) := by
  rw [k92_5 (x0 := 64) h1]
theorem x92_48 {d : Nat} {x1 : Int32} {x2 : Int32} {M : hp} {Q : Option Value → hp → Prop} (H : XS M) : Wp none d 92 48 [(0, .ref 64), (1, .int x1), (2, .int x2)] [] M Q = Wp none d 92 56 [(0, .ref 64), (1, .int x1), (2, .int x2)] [.int x1, .ref 66] M Q := by
  rw [k92_48 (x0 := 64) (by rw [x_K64 H]) (by rw [x_R64_0 H]; decide) (by rw [x_R64_0 H, x_K65 H]) (by rw [x_R64_0 H, x_R65_0 H]; decide)]
  simp only [x_R64_0 H, x_R65_0 H]
theorem x92_60 {d : Nat} {x1 : Int32} {x2 : Int32} {M : hp} {Q : Option Value → hp → Prop} (H : XS M) : Wp none d 92 60 [(0, .ref 64), (1, .int x1), (2, .int x2)] [] M Q = Wp none d 92 68 [(0, .ref 64), (1, .int x1), (2, .int x2)] [.int x1, .ref 67] M Q := by
  rw [k92_60 (x0 := 64) (by rw [x_K64 H]) (by rw [x_R64_0 H]; decide) (by rw [x_R64_0 H, x_K65 H]) (by rw [x_R64_0 H, x_R65_1 H]; decide)]
  simp only [x_R64_0 H, x_R65_1 H]
theorem x92_72 {d : Nat} {x1 : Int32} {x2 : Int32} {M : hp} {Q : Option Value → hp → Prop} (H : XS M) : Wp none d 92 72 [(0, .ref 64), (1, .int x1), (2, .int x2)] [] M Q = Wp none d 92 80 [(0, .ref 64), (1, .int x1), (2, .int x2)] [.int x1, .ref 68] M Q := by
  rw [k92_72 (x0 := 64) (by rw [x_K64 H]) (by rw [x_R64_0 H]; decide) (by rw [x_R64_0 H, x_K65 H]) (by rw [x_R64_0 H, x_R65_2 H]; decide)]
  simp only [x_R64_0 H, x_R65_2 H]
theorem x92_84 {d : Nat} {x1 : Int32} {x2 : Int32} {M : hp} {Q : Option Value → hp → Prop} (H : XS M) : Wp none d 92 84 [(0, .ref 64), (1, .int x1), (2, .int x2)] [] M Q = Wp none d 92 92 [(0, .ref 64), (1, .int x1), (2, .int x2)] [.int x1, .ref 69] M Q := by
  rw [k92_84 (x0 := 64) (by rw [x_K64 H]) (by rw [x_R64_0 H]; decide) (by rw [x_R64_0 H, x_K65 H]) (by rw [x_R64_0 H, x_R65_3 H]; decide)]
  simp only [x_R64_0 H, x_R65_3 H]
theorem x92_96 {d : Nat} {x1 : Int32} {x2 : Int32} {M : hp} {Q : Option Value → hp → Prop} (H : XS M) : Wp none d 92 96 [(0, .ref 64), (1, .int x1), (2, .int x2)] [] M Q = Wp none d 92 105 [(0, .ref 64), (1, .int x1), (2, .int x2)] [.int x1, .ref 65, .ref 116] M Q := by
  rw [k92_96 (x0 := 64) (by rw [x_K64 H]) (by rw [x_R64_11 H]; decide) (by rw [x_R64_0 H]; decide)]
  simp only [x_R64_0 H, x_R64_11 H]
theorem x92_105 {d : Nat} {x1 : Int32} {x2 : Int32} {s0 : Int32} {s1 : Nat} {s2 : Nat} {M : hp} {Q : Option Value → hp → Prop} (H : XS M) (h1 : (hK M s2).1 = 2) : Wp none d 92 105 [(0, .ref 64), (1, .int x1), (2, .int x2)] [.int s0, .ref s1, .ref s2] M Q = Wp none d 36 0 [(0, .ref s2), (1, .ref s1), (2, .int s0)] [] M (fun r M1 => Wp none d 92 108 [(0, .ref 64), (1, .int x1), (2, .int x2)] (r.toList ++ []) M1 Q) := by
  rw [k92_105 (x0 := 64) h1]
theorem x93_0 {d : Nat} {x1 : Int32} {x2 : Int32} {x3 : Int32} {M : hp} {Q : Option Value → hp → Prop} (H : XS M) : Wp none d 93 0 [(0, .ref 64), (1, .int x1), (2, .int x2), (3, .int x3)] [] M Q = Wp none d 93 6 [(0, .ref 64), (1, .int x1), (2, .int x2), (3, .int x3)] [.int x2, .int x1, .ref 65] M Q := by
  rw [k93_0 (x0 := 64) (by rw [x_K64 H]) (by rw [x_R64_0 H]; decide)]
  simp only [x_R64_0 H]
theorem x93_6 {d : Nat} {x1 : Int32} {x2 : Int32} {x3 : Int32} {s0 : Int32} {s1 : Int32} {s2 : Nat} {M : hp} {Q : Option Value → hp → Prop} (H : XS M) (h1 : (hK M s2).1 = 0) : Wp none d 93 6 [(0, .ref 64), (1, .int x1), (2, .int x2), (3, .int x3)] [.int s0, .int s1, .ref s2] M Q = Wp none d 8 0 [(0, .ref s2), (1, .int s1), (2, .int s0)] [] M (fun r M1 => Wp none d 93 9 [(0, .ref 64), (1, .int x1), (2, .int x2), (3, .int x3)] (r.toList ++ []) M1 Q) := by
  rw [k93_6 (x0 := 64) h1]
theorem x93_33 {d : Nat} {x1 : Int32} {x2 : Int32} {x3 : Int32} {s0 : Int32} {M : hp} {Q : Option Value → hp → Prop} (H : XS M) : Wp none d 93 33 [(0, .ref 64), (1, .int x1), (2, .int x2), (3, .int x3)] [.int s0] M Q = Wp none d 93 47 [(0, .ref 64), (1, .int x1), (2, .int x2), (3, .int x3), (4, .int s0)] [.ref 65, .ref 65, .ref 116] M Q := by
  rw [k93_33 (x0 := 64) (by rw [x_K64 H]) (by rw [x_R64_11 H]; decide) (by rw [x_R64_0 H]; decide)]
  simp only [x_R64_0 H, x_R64_11 H]
theorem x93_47 {d : Nat} {x1 : Int32} {x2 : Int32} {x3 : Int32} {x4 : Int32} {s0 : Nat} {s1 : Nat} {s2 : Nat} {M : hp} {Q : Option Value → hp → Prop} (H : XS M) (h1 : (hK M s0).1 = 0) : Wp none d 93 47 [(0, .ref 64), (1, .int x1), (2, .int x2), (3, .int x3), (4, .int x4)] [.ref s0, .ref s1, .ref s2] M Q = Wp none d 11 0 [(0, .ref s0)] [] M (fun r M1 => Wp none d 93 50 [(0, .ref 64), (1, .int x1), (2, .int x2), (3, .int x3), (4, .int x4)] (r.toList ++ [.ref s1, .ref s2]) M1 Q) := by
  rw [k93_47 (x0 := 64) h1]
theorem x93_57n {d : Nat} {x1 : Int32} {x2 : Int32} {x3 : Int32} {x4 : Int32} {s0 : Int32} {s1 : Int32} {s2 : Int32} {s3 : Int32} {s5 : Nat} {s6 : Nat} {M : hp} {Q : Option Value → hp → Prop} (H : XS M) (h1 : (hK M s6).1 = 2) : Wp none d 93 57 [(0, .ref 64), (1, .int x1), (2, .int x2), (3, .int x3), (4, .int x4)] [.int s0, .int s1, .int s2, .int s3, .null, .ref s5, .ref s6] M Q = Wp none d 35 0 [(0, .ref s6), (1, .ref s5), (2, .null), (3, .int s3), (4, .int s2), (5, .int s1), (6, .int s0)] [] M (fun r M1 => Wp none d 93 60 [(0, .ref 64), (1, .int x1), (2, .int x2), (3, .int x3), (4, .int x4)] (r.toList ++ []) M1 Q) := by
  rw [k93_57n (x0 := 64) h1]
theorem x93_57r {d : Nat} {x1 : Int32} {x2 : Int32} {x3 : Int32} {x4 : Int32} {s0 : Int32} {s1 : Int32} {s2 : Int32} {s3 : Int32} {s4 : Nat} {s5 : Nat} {s6 : Nat} {M : hp} {Q : Option Value → hp → Prop} (H : XS M) (h1 : (hK M s6).1 = 2) : Wp none d 93 57 [(0, .ref 64), (1, .int x1), (2, .int x2), (3, .int x3), (4, .int x4)] [.int s0, .int s1, .int s2, .int s3, .ref s4, .ref s5, .ref s6] M Q = Wp none d 35 0 [(0, .ref s6), (1, .ref s5), (2, .ref s4), (3, .int s3), (4, .int s2), (5, .int s1), (6, .int s0)] [] M (fun r M1 => Wp none d 93 60 [(0, .ref 64), (1, .int x1), (2, .int x2), (3, .int x3), (4, .int x4)] (r.toList ++ []) M1 Q) := by
  rw [k93_57r (x0 := 64) h1]
theorem x94_0 {d : Nat} {x1 : Int32} {M : hp} {Q : Option Value → hp → Prop} (H : XS M) : Wp none d 94 0 [(0, .ref 64), (1, .int x1)] [] M Q = Wp none d 94 5 [(0, .ref 64), (1, .int x1)] [.int x1, .ref 65] M Q := by
  rw [k94_0 (x0 := 64) (by rw [x_K64 H]) (by rw [x_R64_0 H]; decide)]
  simp only [x_R64_0 H]
theorem x94_5 {d : Nat} {x1 : Int32} {s0 : Int32} {s1 : Nat} {M : hp} {Q : Option Value → hp → Prop} (H : XS M) (h1 : (hK M s1).1 = 0) : Wp none d 94 5 [(0, .ref 64), (1, .int x1)] [.int s0, .ref s1] M Q = Wp none d 12 0 [(0, .ref s1), (1, .int s0)] [] M (fun r M1 => Wp none d 94 8 [(0, .ref 64), (1, .int x1)] (r.toList ++ []) M1 Q) := by
  rw [k94_5 (x0 := 64) h1]
theorem x95_23 {d : Nat} {x1 : Int32} {x2 : Int32} {s0 : Int32} {M : hp} {Q : Option Value → hp → Prop} (H : XS M) : Wp none d 95 23 [(0, .ref 64), (1, .int x1), (2, .int x2)] [.int s0, .ref 64] M Q = Wp none d 130 0 [(0, .ref 64), (1, .int s0)] [] M (fun r M1 => Wp none d 95 26 [(0, .ref 64), (1, .int x1), (2, .int x2)] (r.toList ++ []) M1 Q) := by
  rw [k95_23 (x0 := 64) (s1 := 64) (by rw [x_K64 H])]
theorem x95_27 {d : Nat} {x1 : Int32} {x2 : Int32} {M : hp} {Q : Option Value → hp → Prop} (H : XS M) : Wp none d 95 27 [(0, .ref 64), (1, .int x1), (2, .int x2)] [] M Q = Wp none d 95 32 [(0, .ref 64), (1, .int x1), (2, .int x2)] [.int x1, .ref 65] M Q := by
  rw [k95_27 (x0 := 64) (by rw [x_K64 H]) (by rw [x_R64_0 H]; decide)]
  simp only [x_R64_0 H]
theorem x95_32 {d : Nat} {x1 : Int32} {x2 : Int32} {s0 : Int32} {s1 : Nat} {M : hp} {Q : Option Value → hp → Prop} (H : XS M) (h1 : (hK M s1).1 = 0) : Wp none d 95 32 [(0, .ref 64), (1, .int x1), (2, .int x2)] [.int s0, .ref s1] M Q = Wp none d 3 0 [(0, .ref s1), (1, .int s0)] [] M (fun r M1 => Wp none d 95 35 [(0, .ref 64), (1, .int x1), (2, .int x2)] (r.toList ++ []) M1 Q) := by
  rw [k95_32 (x0 := 64) h1]
theorem x95_35 {d : Nat} {x1 : Int32} {x2 : Int32} {s0 : Int32} {M : hp} {Q : Option Value → hp → Prop} (H : XS M) : Wp none d 95 35 [(0, .ref 64), (1, .int x1), (2, .int x2)] [.int s0] M Q = Wp none d 95 42 [(0, .ref 64), (1, .int x1), (2, .int x2), (3, .int s0)] [.int x2, .int x1, .ref 65] M Q := by
  rw [k95_35 (x0 := 64) (by rw [x_K64 H]) (by rw [x_R64_0 H]; decide)]
  simp only [x_R64_0 H]
theorem x95_42 {d : Nat} {x1 : Int32} {x2 : Int32} {x3 : Int32} {s0 : Int32} {s1 : Int32} {s2 : Nat} {M : hp} {Q : Option Value → hp → Prop} (H : XS M) (h1 : (hK M s2).1 = 0) : Wp none d 95 42 [(0, .ref 64), (1, .int x1), (2, .int x2), (3, .int x3)] [.int s0, .int s1, .ref s2] M Q = Wp none d 4 0 [(0, .ref s2), (1, .int s1), (2, .int s0)] [] M (fun r M1 => Wp none d 95 45 [(0, .ref 64), (1, .int x1), (2, .int x2), (3, .int x3)] (r.toList ++ []) M1 Q) := by
  rw [k95_42 (x0 := 64) h1]
theorem x95_45 {d : Nat} {x1 : Int32} {x2 : Int32} {x3 : Int32} {M : hp} {Q : Option Value → hp → Prop} (H : XS M) : Wp none d 95 45 [(0, .ref 64), (1, .int x1), (2, .int x2), (3, .int x3)] [] M Q = Wp none d 95 49 [(0, .ref 64), (1, .int x1), (2, .int x2), (3, .int x3)] [.ref 103] M Q := by
  rw [k95_45 (x0 := 64) (by rw [x_K64 H]) (by rw [x_R64_6 H]; decide)]
  simp only [x_R64_6 H]
theorem x95_49 {d : Nat} {x1 : Int32} {x2 : Int32} {x3 : Int32} {s0 : Nat} {M : hp} {Q : Option Value → hp → Prop} (H : XS M) (h1 : (hK M s0).1 = 3) : Wp none d 95 49 [(0, .ref 64), (1, .int x1), (2, .int x2), (3, .int x3)] [.ref s0] M Q = Wp none d 44 0 [(0, .ref s0)] [] M (fun r M1 => Wp none d 95 52 [(0, .ref 64), (1, .int x1), (2, .int x2), (3, .int x3)] (r.toList ++ []) M1 Q) := by
  rw [k95_49 (x0 := 64) h1]
theorem x95_54 {d : Nat} {x1 : Int32} {x2 : Int32} {x3 : Int32} {s0 : Int32} {M : hp} {Q : Option Value → hp → Prop} (H : XS M) : Wp none d 95 54 [(0, .ref 64), (1, .int x1), (2, .int x2), (3, .int x3)] [.int s0, .ref 64] M Q = Wp none d 131 0 [(0, .ref 64), (1, .int s0)] [] M (fun r M1 => Wp none d 95 57 [(0, .ref 64), (1, .int x1), (2, .int x2), (3, .int x3)] (r.toList ++ []) M1 Q) := by
  rw [k95_54 (x0 := 64) (s1 := 64) (by rw [x_K64 H])]
theorem x96_0 {d : Nat} {x1 : Int32} {x2 : Int32} {x3 : Int32} {x4 : Int32} {x5 : Int32} {M : hp} {Q : Option Value → hp → Prop} (H : XS M) : Wp none d 96 0 [(0, .ref 64), (1, .int x1), (2, .int x2), (3, .int x3), (4, .int x4), (5, .int x5)] [] M Q = Wp none d 96 10 [(0, .ref 64), (1, .int x1), (2, .int x2), (3, .int x3), (4, .int x4), (5, .int x5)] [.int 380, .int (hI M 107 1)] M Q := by
  rw [k96_0 (x0 := 64) (by rw [x_K64 H]) (by rw [x_R64_8 H]; decide) (by rw [x_R64_8 H, x_K107 H])]
  simp only [x_R64_8 H]
theorem x96_15 {d : Nat} {x1 : Int32} {x2 : Int32} {x3 : Int32} {x4 : Int32} {x5 : Int32} {M : hp} {Q : Option Value → hp → Prop} (H : XS M) : Wp none d 96 15 [(0, .ref 64), (1, .int x1), (2, .int x2), (3, .int x3), (4, .int x4), (5, .int x5)] [] M Q = Wp none d 96 20 [(0, .ref 64), (1, .int x1), (2, .int x2), (3, .int x3), (4, .int x4), (5, .int x5)] [.int x1, .ref 107] M Q := by
  rw [k96_15 (x0 := 64) (by rw [x_K64 H]) (by rw [x_R64_8 H]; decide)]
  simp only [x_R64_8 H]
theorem x96_20 {d : Nat} {x1 : Int32} {x2 : Int32} {x3 : Int32} {x4 : Int32} {x5 : Int32} {s0 : Int32} {s1 : Nat} {M : hp} {Q : Option Value → hp → Prop} (H : XS M) (h1 : (hK M s1).1 = 6) : Wp none d 96 20 [(0, .ref 64), (1, .int x1), (2, .int x2), (3, .int x3), (4, .int x4), (5, .int x5)] [.int s0, .ref s1] M Q = Wp none d 82 0 [(0, .ref s1), (1, .int s0)] [] M (fun r M1 => Wp none d 96 23 [(0, .ref 64), (1, .int x1), (2, .int x2), (3, .int x3), (4, .int x4), (5, .int x5)] (r.toList ++ []) M1 Q) := by
  rw [k96_20 (x0 := 64) h1]
theorem x96_23 {d : Nat} {x1 : Int32} {x2 : Int32} {x3 : Int32} {x4 : Int32} {x5 : Int32} {M : hp} {Q : Option Value → hp → Prop} (H : XS M) : Wp none d 96 23 [(0, .ref 64), (1, .int x1), (2, .int x2), (3, .int x3), (4, .int x4), (5, .int x5)] [] M Q = Wp none d 96 28 [(0, .ref 64), (1, .int x1), (2, .int x2), (3, .int x3), (4, .int x4), (5, .int x5)] [.int x2, .ref 107] M Q := by
  rw [k96_23 (x0 := 64) (by rw [x_K64 H]) (by rw [x_R64_8 H]; decide)]
  simp only [x_R64_8 H]
theorem x96_28 {d : Nat} {x1 : Int32} {x2 : Int32} {x3 : Int32} {x4 : Int32} {x5 : Int32} {s0 : Int32} {s1 : Nat} {M : hp} {Q : Option Value → hp → Prop} (H : XS M) (h1 : (hK M s1).1 = 6) : Wp none d 96 28 [(0, .ref 64), (1, .int x1), (2, .int x2), (3, .int x3), (4, .int x4), (5, .int x5)] [.int s0, .ref s1] M Q = Wp none d 82 0 [(0, .ref s1), (1, .int s0)] [] M (fun r M1 => Wp none d 96 31 [(0, .ref 64), (1, .int x1), (2, .int x2), (3, .int x3), (4, .int x4), (5, .int x5)] (r.toList ++ []) M1 Q) := by
  rw [k96_28 (x0 := 64) h1]
theorem x96_31 {d : Nat} {x1 : Int32} {x2 : Int32} {x3 : Int32} {x4 : Int32} {x5 : Int32} {M : hp} {Q : Option Value → hp → Prop} (H : XS M) : Wp none d 96 31 [(0, .ref 64), (1, .int x1), (2, .int x2), (3, .int x3), (4, .int x4), (5, .int x5)] [] M Q = Wp none d 96 36 [(0, .ref 64), (1, .int x1), (2, .int x2), (3, .int x3), (4, .int x4), (5, .int x5)] [.int x3, .ref 107] M Q := by
  rw [k96_31 (x0 := 64) (by rw [x_K64 H]) (by rw [x_R64_8 H]; decide)]
  simp only [x_R64_8 H]
theorem x96_36 {d : Nat} {x1 : Int32} {x2 : Int32} {x3 : Int32} {x4 : Int32} {x5 : Int32} {s0 : Int32} {s1 : Nat} {M : hp} {Q : Option Value → hp → Prop} (H : XS M) (h1 : (hK M s1).1 = 6) : Wp none d 96 36 [(0, .ref 64), (1, .int x1), (2, .int x2), (3, .int x3), (4, .int x4), (5, .int x5)] [.int s0, .ref s1] M Q = Wp none d 82 0 [(0, .ref s1), (1, .int s0)] [] M (fun r M1 => Wp none d 96 39 [(0, .ref 64), (1, .int x1), (2, .int x2), (3, .int x3), (4, .int x4), (5, .int x5)] (r.toList ++ []) M1 Q) := by
  rw [k96_36 (x0 := 64) h1]
theorem x96_39 {d : Nat} {x1 : Int32} {x2 : Int32} {x3 : Int32} {x4 : Int32} {x5 : Int32} {M : hp} {Q : Option Value → hp → Prop} (H : XS M) : Wp none d 96 39 [(0, .ref 64), (1, .int x1), (2, .int x2), (3, .int x3), (4, .int x4), (5, .int x5)] [] M Q = Wp none d 96 45 [(0, .ref 64), (1, .int x1), (2, .int x2), (3, .int x3), (4, .int x4), (5, .int x5)] [.int x4, .ref 107] M Q := by
  rw [k96_39 (x0 := 64) (by rw [x_K64 H]) (by rw [x_R64_8 H]; decide)]
  simp only [x_R64_8 H]
theorem x96_45 {d : Nat} {x1 : Int32} {x2 : Int32} {x3 : Int32} {x4 : Int32} {x5 : Int32} {s0 : Int32} {s1 : Nat} {M : hp} {Q : Option Value → hp → Prop} (H : XS M) (h1 : (hK M s1).1 = 6) : Wp none d 96 45 [(0, .ref 64), (1, .int x1), (2, .int x2), (3, .int x3), (4, .int x4), (5, .int x5)] [.int s0, .ref s1] M Q = Wp none d 82 0 [(0, .ref s1), (1, .int s0)] [] M (fun r M1 => Wp none d 96 48 [(0, .ref 64), (1, .int x1), (2, .int x2), (3, .int x3), (4, .int x4), (5, .int x5)] (r.toList ++ []) M1 Q) := by
  rw [k96_45 (x0 := 64) h1]
theorem x96_48 {d : Nat} {x1 : Int32} {x2 : Int32} {x3 : Int32} {x4 : Int32} {x5 : Int32} {M : hp} {Q : Option Value → hp → Prop} (H : XS M) : Wp none d 96 48 [(0, .ref 64), (1, .int x1), (2, .int x2), (3, .int x3), (4, .int x4), (5, .int x5)] [] M Q = Wp none d 96 54 [(0, .ref 64), (1, .int x1), (2, .int x2), (3, .int x3), (4, .int x4), (5, .int x5)] [.int x5, .ref 107] M Q := by
  rw [k96_48 (x0 := 64) (by rw [x_K64 H]) (by rw [x_R64_8 H]; decide)]
  simp only [x_R64_8 H]
theorem x96_54 {d : Nat} {x1 : Int32} {x2 : Int32} {x3 : Int32} {x4 : Int32} {x5 : Int32} {s0 : Int32} {s1 : Nat} {M : hp} {Q : Option Value → hp → Prop} (H : XS M) (h1 : (hK M s1).1 = 6) : Wp none d 96 54 [(0, .ref 64), (1, .int x1), (2, .int x2), (3, .int x3), (4, .int x4), (5, .int x5)] [.int s0, .ref s1] M Q = Wp none d 82 0 [(0, .ref s1), (1, .int s0)] [] M (fun r M1 => Wp none d 96 57 [(0, .ref 64), (1, .int x1), (2, .int x2), (3, .int x3), (4, .int x4), (5, .int x5)] (r.toList ++ []) M1 Q) := by
  rw [k96_54 (x0 := 64) h1]
theorem x96_57 {d : Nat} {x1 : Int32} {x2 : Int32} {x3 : Int32} {x4 : Int32} {x5 : Int32} {M : hp} {Q : Option Value → hp → Prop} (H : XS M) : Wp none d 96 57 [(0, .ref 64), (1, .int x1), (2, .int x2), (3, .int x3), (4, .int x4), (5, .int x5)] [] M Q = Q (some (.int (hI M 107 1))) M := by
  rw [k96_57 (x0 := 64) (by rw [x_K64 H]) (by rw [x_R64_8 H]; decide) (by rw [x_R64_8 H, x_K107 H])]
  simp only [x_R64_8 H]
theorem x97_4 {d : Nat} {x1 : Int32} {M : hp} {Q : Option Value → hp → Prop} (H : XS M) : Wp none d 97 4 [(0, .ref 64), (1, .int x1)] [] M Q = Wp none d 97 12 [(0, .ref 64), (1, .int x1)] [.int (hI M 107 1), .int x1] M Q := by
  rw [k97_4 (x0 := 64) (by rw [x_K64 H]) (by rw [x_R64_8 H]; decide) (by rw [x_R64_8 H, x_K107 H])]
  simp only [x_R64_8 H]
theorem x97_17 {d : Nat} {x1 : Int32} {M : hp} {Q : Option Value → hp → Prop} (H : XS M) : Wp none d 97 17 [(0, .ref 64), (1, .int x1)] [] M Q = Wp none d 97 25 [(0, .ref 64), (1, .int x1)] [] (sI M 107 1 x1) Q := by
  rw [k97_17 (x0 := 64) (by rw [x_K64 H]) (by rw [x_R64_8 H]; decide) (by rw [x_R64_8 H, x_K107 H])]
  simp only [x_R64_8 H]
theorem x98_0 {d : Nat} {M : hp} {Q : Option Value → hp → Prop} (H : XS M) : Wp none d 98 0 [(0, .ref 64)] [] M Q = Wp none d 98 7 [(0, .ref 64)] [.int (hI M 107 1)] M Q := by
  rw [k98_0 (x0 := 64) (by rw [x_K64 H]) (by rw [x_R64_8 H]; decide) (by rw [x_R64_8 H, x_K107 H])]
  simp only [x_R64_8 H]
theorem x98_13 {d : Nat} {s0 : Int32} {M : hp} {Q : Option Value → hp → Prop} (H : XS M) : Wp none d 98 13 [(0, .ref 64)] [.int s0, .ref 64] M Q = Wp none d 130 0 [(0, .ref 64), (1, .int s0)] [] M (fun r M1 => Wp none d 98 16 [(0, .ref 64)] (r.toList ++ []) M1 Q) := by
  rw [k98_13 (x0 := 64) (s1 := 64) (by rw [x_K64 H])]
theorem x98_17 {d : Nat} {M : hp} {Q : Option Value → hp → Prop} (H : XS M) : Wp none d 98 17 [(0, .ref 64)] [] M Q = Wp none d 98 21 [(0, .ref 64)] [.ref 103] M Q := by
  rw [k98_17 (x0 := 64) (by rw [x_K64 H]) (by rw [x_R64_6 H]; decide)]
  simp only [x_R64_6 H]
theorem x98_21 {d : Nat} {s0 : Nat} {M : hp} {Q : Option Value → hp → Prop} (H : XS M) (h1 : (hK M s0).1 = 3) : Wp none d 98 21 [(0, .ref 64)] [.ref s0] M Q = Wp none d 44 0 [(0, .ref s0)] [] M (fun r M1 => Wp none d 98 24 [(0, .ref 64)] (r.toList ++ []) M1 Q) := by
  rw [k98_21 (x0 := 64) h1]
theorem x98_24 {d : Nat} {M : hp} {Q : Option Value → hp → Prop} (H : XS M) : Wp none d 98 24 [(0, .ref 64)] [] M Q = Wp none d 98 29 [(0, .ref 64)] [] (sI M 64 16 0) Q := by
  rw [k98_24 (x0 := 64) (by rw [x_K64 H])]
theorem x98_33 {d : Nat} {x1 : Int32} {x2 : Int32} {M : hp} {Q : Option Value → hp → Prop} (H : XS M) : Wp none d 98 33 [(0, .ref 64), (1, .int x1), (2, .int x2)] [] M Q = Wp none d 98 41 [(0, .ref 64), (1, .int x1), (2, .int x2)] [.int (hI M 107 1), .int x2] M Q := by
  rw [k98_33 (x0 := 64) (by rw [x_K64 H]) (by rw [x_R64_8 H]; decide) (by rw [x_R64_8 H, x_K107 H])]
  simp only [x_R64_8 H]
theorem x98_46 {d : Nat} {x1 : Int32} {x2 : Int32} {s0 : Int32} {M : hp} {Q : Option Value → hp → Prop} (H : XS M) : Wp none d 98 46 [(0, .ref 64), (1, .int x1), (2, .int x2)] [.int s0, .ref 64] M Q = Wp none d 137 0 [(0, .ref 64), (1, .int s0)] [] M (fun r M1 => Wp none d 98 49 [(0, .ref 64), (1, .int x1), (2, .int x2)] (r.toList ++ []) M1 Q) := by
  rw [k98_46 (x0 := 64) (s1 := 64) (by rw [x_K64 H])]
theorem x98_58 {d : Nat} {x1 : Int32} {x2 : Int32} {M : hp} {Q : Option Value → hp → Prop} (H : XS M) : Wp none d 98 58 [(0, .ref 64), (1, .int x1), (2, .int x2)] [] M Q = Wp none d 98 68 [(0, .ref 64), (1, .int x1), (2, .int x2)] [] (sI M 64 16 ((hI M 64 16) + 1)) Q := by
  rw [k98_58 (x0 := 64) (by rw [x_K64 H])]
theorem x98_74 {d : Nat} {x1 : Int32} {x2 : Int32} {M : hp} {Q : Option Value → hp → Prop} (H : XS M) : Wp none d 98 74 [(0, .ref 64), (1, .int x1), (2, .int x2)] [] M Q = Wp none d 98 82 [(0, .ref 64), (1, .int x1), (2, .int x2)] [] (sI M 107 1 0) Q := by
  rw [k98_74 (x0 := 64) (by rw [x_K64 H]) (by rw [x_R64_8 H]; decide) (by rw [x_R64_8 H, x_K107 H])]
  simp only [x_R64_8 H]
theorem x98_84 {d : Nat} {x1 : Int32} {x2 : Int32} {s0 : Int32} {M : hp} {Q : Option Value → hp → Prop} (H : XS M) : Wp none d 98 84 [(0, .ref 64), (1, .int x1), (2, .int x2)] [.int s0, .ref 64] M Q = Wp none d 131 0 [(0, .ref 64), (1, .int s0)] [] M (fun r M1 => Wp none d 98 87 [(0, .ref 64), (1, .int x1), (2, .int x2)] (r.toList ++ []) M1 Q) := by
  rw [k98_84 (x0 := 64) (s1 := 64) (by rw [x_K64 H])]
theorem x99_0 {d : Nat} {M : hp} {Q : Option Value → hp → Prop} (H : XS M) : Wp none d 99 0 [(0, .ref 64)] [] M Q = Q (some (.int (hI M 64 16))) M := by
  rw [k99_0 (x0 := 64) (by rw [x_K64 H])]
theorem x100_0 {d : Nat} {M : hp} {Q : Option Value → hp → Prop} (H : XS M) : Wp none d 100 0 [(0, .ref 64)] [] M Q = Wp none d 100 9 [(0, .ref 64)] [.int 6, .int (hI M 65 9)] M Q := by
  rw [k100_0 (x0 := 64) (by rw [x_K64 H]) (by rw [x_R64_0 H]; decide) (by rw [x_R64_0 H, x_K65 H])]
  simp only [x_R64_0 H]
theorem x100_12 {d : Nat} {M : hp} {Q : Option Value → hp → Prop} (H : XS M) : Wp none d 100 12 [(0, .ref 64)] [] M Q = Wp none d 100 20 [(0, .ref 64)] [] (sI M 107 1 0) Q := by
  rw [k100_12 (x0 := 64) (by rw [x_K64 H]) (by rw [x_R64_8 H]; decide) (by rw [x_R64_8 H, x_K107 H])]
  simp only [x_R64_8 H]
theorem x100_23 {d : Nat} {s0 : Int32} {M : hp} {Q : Option Value → hp → Prop} (H : XS M) : Wp none d 100 23 [(0, .ref 64)] [.int s0, .ref 64] M Q = Wp none d 130 0 [(0, .ref 64), (1, .int s0)] [] M (fun r M1 => Wp none d 100 26 [(0, .ref 64)] (r.toList ++ []) M1 Q) := by
  rw [k100_23 (x0 := 64) (s1 := 64) (by rw [x_K64 H])]
theorem x100_27 {d : Nat} {M : hp} {Q : Option Value → hp → Prop} (H : XS M) : Wp none d 100 27 [(0, .ref 64)] [] M Q = Wp none d 100 32 [(0, .ref 64)] [.int 0, .ref 109] M Q := by
  rw [k100_27 (x0 := 64) (by rw [x_K64 H]) (by rw [x_R64_9 H]; decide)]
  simp only [x_R64_9 H]
theorem x100_32 {d : Nat} {s0 : Int32} {s1 : Nat} {M : hp} {Q : Option Value → hp → Prop} (H : XS M) (h1 : (hK M s1).1 = 5) : Wp none d 100 32 [(0, .ref 64)] [.int s0, .ref s1] M Q = Wp none d 56 0 [(0, .ref s1), (1, .int s0)] [] M (fun r M1 => Wp none d 100 35 [(0, .ref 64)] (r.toList ++ []) M1 Q) := by
  rw [k100_32 (x0 := 64) h1]
theorem x100_37 {d : Nat} {x1 : Int32} {M : hp} {Q : Option Value → hp → Prop} (H : XS M) : Wp none d 100 37 [(0, .ref 64), (1, .int x1)] [.ref 64] M Q = Wp none d 138 0 [(0, .ref 64)] [] M (fun r M1 => Wp none d 100 40 [(0, .ref 64), (1, .int x1)] (r.toList ++ []) M1 Q) := by
  rw [k100_37 (x0 := 64) (s0 := 64) (by rw [x_K64 H])]
theorem x100_47 {d : Nat} {x1 : Int32} {s0 : Int32} {M : hp} {Q : Option Value → hp → Prop} (H : XS M) : Wp none d 100 47 [(0, .ref 64), (1, .int x1)] [.int s0, .ref 64] M Q = Wp none d 130 0 [(0, .ref 64), (1, .int s0)] [] M (fun r M1 => Wp none d 100 50 [(0, .ref 64), (1, .int x1)] (r.toList ++ []) M1 Q) := by
  rw [k100_47 (x0 := 64) (s1 := 64) (by rw [x_K64 H])]
theorem x100_69 {d : Nat} {x1 : Int32} {s0 : Nat} {s1 : Nat} {M : hp} {Q : Option Value → hp → Prop} (H : XS M) (h1 : (hK M s1).1 = 0) : Wp none d 100 69 [(0, .ref 64), (1, .int x1)] [.ref s0, .ref s1] M Q = Wp none d 6 0 [(0, .ref s1), (1, .ref s0)] [] M (fun r M1 => Wp none d 100 72 [(0, .ref 64), (1, .int x1)] (r.toList ++ []) M1 Q) := by
  rw [k100_69 (x0 := 64) h1]
theorem x100_72 {d : Nat} {x1 : Int32} {M : hp} {Q : Option Value → hp → Prop} (H : XS M) : Wp none d 100 72 [(0, .ref 64), (1, .int x1)] [] M Q = Wp none d 100 82 [(0, .ref 64), (1, .int x1)] [.int ((hI M 65 9) - 1), .ref 64] M Q := by
  rw [k100_72 (x0 := 64) (by rw [x_K64 H]) (by rw [x_R64_0 H]; decide) (by rw [x_R64_0 H, x_K65 H])]
  simp only [x_R64_0 H]
theorem x100_82 {d : Nat} {x1 : Int32} {s0 : Int32} {M : hp} {Q : Option Value → hp → Prop} (H : XS M) : Wp none d 100 82 [(0, .ref 64), (1, .int x1)] [.int s0, .ref 64] M Q = Wp none d 131 0 [(0, .ref 64), (1, .int s0)] [] M (fun r M1 => Wp none d 100 85 [(0, .ref 64), (1, .int x1)] (r.toList ++ []) M1 Q) := by
  rw [k100_82 (x0 := 64) (s1 := 64) (by rw [x_K64 H])]
theorem x101_0 {d : Nat} {M : hp} {Q : Option Value → hp → Prop} (H : XS M) : Wp none d 101 0 [(0, .ref 64)] [] M Q = Wp none d 101 5 [(0, .ref 64)] [] (sI M 64 18 (-1)) Q := by
  rw [k101_0 (x0 := 64) (by rw [x_K64 H])]
theorem x101_5 {d : Nat} {M : hp} {Q : Option Value → hp → Prop} (H : XS M) : Wp none d 101 5 [(0, .ref 64)] [] M Q = Wp none d 101 10 [(0, .ref 64)] [.int 1, .ref 109] M Q := by
  rw [k101_5 (x0 := 64) (by rw [x_K64 H]) (by rw [x_R64_9 H]; decide)]
  simp only [x_R64_9 H]
theorem x101_10 {d : Nat} {s0 : Int32} {s1 : Nat} {M : hp} {Q : Option Value → hp → Prop} (H : XS M) (h1 : (hK M s1).1 = 5) : Wp none d 101 10 [(0, .ref 64)] [.int s0, .ref s1] M Q = Wp none d 56 0 [(0, .ref s1), (1, .int s0)] [] M (fun r M1 => Wp none d 101 13 [(0, .ref 64)] (r.toList ++ []) M1 Q) := by
  rw [k101_10 (x0 := 64) h1]
theorem x101_15 {d : Nat} {x1 : Int32} {M : hp} {Q : Option Value → hp → Prop} (H : XS M) : Wp none d 101 15 [(0, .ref 64), (1, .int x1)] [.ref 64] M Q = Wp none d 138 0 [(0, .ref 64)] [] M (fun r M1 => Wp none d 101 18 [(0, .ref 64), (1, .int x1)] (r.toList ++ []) M1 Q) := by
  rw [k101_15 (x0 := 64) (s0 := 64) (by rw [x_K64 H])]
theorem x101_25 {d : Nat} {x1 : Int32} {s0 : Int32} {M : hp} {Q : Option Value → hp → Prop} (H : XS M) : Wp none d 101 25 [(0, .ref 64), (1, .int x1)] [.int s0, .ref 64] M Q = Wp none d 130 0 [(0, .ref 64), (1, .int s0)] [] M (fun r M1 => Wp none d 101 28 [(0, .ref 64), (1, .int x1)] (r.toList ++ []) M1 Q) := by
  rw [k101_25 (x0 := 64) (s1 := 64) (by rw [x_K64 H])]
theorem x101_29 {d : Nat} {x1 : Int32} {M : hp} {Q : Option Value → hp → Prop} (H : XS M) : Wp none d 101 29 [(0, .ref 64), (1, .int x1)] [] M Q = Wp none d 101 37 [(0, .ref 64), (1, .int x1)] [.ref 65, .ref 77] M Q := by
  rw [k101_29 (x0 := 64) (by rw [x_K64 H]) (by rw [x_R64_2 H]; decide) (by rw [x_R64_0 H]; decide)]
  simp only [x_R64_0 H, x_R64_2 H]
theorem x101_37 {d : Nat} {x1 : Int32} {s0 : Nat} {s1 : Nat} {M : hp} {Q : Option Value → hp → Prop} (H : XS M) (h1 : (hK M s1).1 = 0) : Wp none d 101 37 [(0, .ref 64), (1, .int x1)] [.ref s0, .ref s1] M Q = Wp none d 2 0 [(0, .ref s1), (1, .ref s0)] [] M (fun r M1 => Wp none d 101 40 [(0, .ref 64), (1, .int x1)] (r.toList ++ []) M1 Q) := by
  rw [k101_37 (x0 := 64) h1]
theorem x101_40 {d : Nat} {x1 : Int32} {M : hp} {Q : Option Value → hp → Prop} (H : XS M) : Wp none d 101 40 [(0, .ref 64), (1, .int x1)] [] M Q = Wp none d 101 48 [(0, .ref 64), (1, .int x1)] [.ref 103, .ref 105] M Q := by
  rw [k101_40 (x0 := 64) (by rw [x_K64 H]) (by rw [x_R64_7 H]; decide) (by rw [x_R64_6 H]; decide)]
  simp only [x_R64_6 H, x_R64_7 H]
theorem x101_48 {d : Nat} {x1 : Int32} {s0 : Nat} {s1 : Nat} {M : hp} {Q : Option Value → hp → Prop} (H : XS M) (h1 : (hK M s1).1 = 3) : Wp none d 101 48 [(0, .ref 64), (1, .int x1)] [.ref s0, .ref s1] M Q = Wp none d 45 0 [(0, .ref s1), (1, .ref s0)] [] M (fun r M1 => Wp none d 101 51 [(0, .ref 64), (1, .int x1)] (r.toList ++ []) M1 Q) := by
  rw [k101_48 (x0 := 64) h1]
theorem x101_51 {d : Nat} {x1 : Int32} {M : hp} {Q : Option Value → hp → Prop} (H : XS M) : Wp none d 101 51 [(0, .ref 64), (1, .int x1)] [] M Q = Wp none d 101 59 [(0, .ref 64), (1, .int x1)] [.ref 110, .ref 64] M Q := by
  rw [k101_51 (x0 := 64) (by rw [x_K64 H]) (by rw [x_R64_9 H]; decide) (by rw [x_R64_9 H, x_K109 H]) (by rw [x_R64_9 H, x_R109_1 H]; decide)]
  simp only [x_R64_9 H, x_R109_1 H]
theorem x101_59 {d : Nat} {x1 : Int32} {s0 : Nat} {M : hp} {Q : Option Value → hp → Prop} (H : XS M) : Wp none d 101 59 [(0, .ref 64), (1, .int x1)] [.ref s0, .ref 64] M Q = Wp none d 139 0 [(0, .ref 64), (1, .ref s0)] [] M (fun r M1 => Wp none d 101 62 [(0, .ref 64), (1, .int x1)] (r.toList ++ []) M1 Q) := by
  rw [k101_59 (x0 := 64) (s1 := 64) (by rw [x_K64 H])]
theorem x101_62 {d : Nat} {x1 : Int32} {s0 : Int32} {M : hp} {Q : Option Value → hp → Prop} (H : XS M) : Wp none d 101 62 [(0, .ref 64), (1, .int x1)] [.int s0] M Q = Wp none d 101 68 [(0, .ref 64), (1, .int x1), (2, .int s0)] [.int (-1), .int (hI M 64 18)] M Q := by
  rw [k101_62 (x0 := 64) (by rw [x_K64 H])]
theorem x101_73 {d : Nat} {x1 : Int32} {x2 : Int32} {s0 : Int32} {M : hp} {Q : Option Value → hp → Prop} (H : XS M) : Wp none d 101 73 [(0, .ref 64), (1, .int x1), (2, .int x2)] [.int s0, .ref 64] M Q = Wp none d 131 0 [(0, .ref 64), (1, .int s0)] [] M (fun r M1 => Wp none d 101 76 [(0, .ref 64), (1, .int x1), (2, .int x2)] (r.toList ++ []) M1 Q) := by
  rw [k101_73 (x0 := 64) (s1 := 64) (by rw [x_K64 H])]
theorem x101_77 {d : Nat} {x1 : Int32} {x2 : Int32} {M : hp} {Q : Option Value → hp → Prop} (H : XS M) : Wp none d 101 77 [(0, .ref 64), (1, .int x1), (2, .int x2)] [] M Q = Wp none d 101 85 [(0, .ref 64), (1, .int x1), (2, .int x2)] [.ref 77, .ref 65] M Q := by
  rw [k101_77 (x0 := 64) (by rw [x_K64 H]) (by rw [x_R64_0 H]; decide) (by rw [x_R64_2 H]; decide)]
  simp only [x_R64_2 H, x_R64_0 H]
theorem x101_85 {d : Nat} {x1 : Int32} {x2 : Int32} {s0 : Nat} {s1 : Nat} {M : hp} {Q : Option Value → hp → Prop} (H : XS M) (h1 : (hK M s1).1 = 0) : Wp none d 101 85 [(0, .ref 64), (1, .int x1), (2, .int x2)] [.ref s0, .ref s1] M Q = Wp none d 2 0 [(0, .ref s1), (1, .ref s0)] [] M (fun r M1 => Wp none d 101 88 [(0, .ref 64), (1, .int x1), (2, .int x2)] (r.toList ++ []) M1 Q) := by
  rw [k101_85 (x0 := 64) h1]
theorem x101_88 {d : Nat} {x1 : Int32} {x2 : Int32} {M : hp} {Q : Option Value → hp → Prop} (H : XS M) : Wp none d 101 88 [(0, .ref 64), (1, .int x1), (2, .int x2)] [] M Q = Wp none d 101 96 [(0, .ref 64), (1, .int x1), (2, .int x2)] [.ref 105, .ref 103] M Q := by
  rw [k101_88 (x0 := 64) (by rw [x_K64 H]) (by rw [x_R64_6 H]; decide) (by rw [x_R64_7 H]; decide)]
  simp only [x_R64_7 H, x_R64_6 H]
theorem x101_96 {d : Nat} {x1 : Int32} {x2 : Int32} {s0 : Nat} {s1 : Nat} {M : hp} {Q : Option Value → hp → Prop} (H : XS M) (h1 : (hK M s1).1 = 3) : Wp none d 101 96 [(0, .ref 64), (1, .int x1), (2, .int x2)] [.ref s0, .ref s1] M Q = Wp none d 45 0 [(0, .ref s1), (1, .ref s0)] [] M (fun r M1 => Wp none d 101 99 [(0, .ref 64), (1, .int x1), (2, .int x2)] (r.toList ++ []) M1 Q) := by
  rw [k101_96 (x0 := 64) h1]
theorem x101_102 {d : Nat} {x1 : Int32} {x2 : Int32} {s0 : Int32} {M : hp} {Q : Option Value → hp → Prop} (H : XS M) : Wp none d 101 102 [(0, .ref 64), (1, .int x1), (2, .int x2)] [.int s0, .ref 64] M Q = Wp none d 130 0 [(0, .ref 64), (1, .int s0)] [] M (fun r M1 => Wp none d 101 105 [(0, .ref 64), (1, .int x1), (2, .int x2)] (r.toList ++ []) M1 Q) := by
  rw [k101_102 (x0 := 64) (s1 := 64) (by rw [x_K64 H])]
theorem x102_0 {d : Nat} {M : hp} {Q : Option Value → hp → Prop} (H : XS M) : Wp none d 102 0 [(0, .ref 64)] [] M Q = Q (some (.int (hI M 64 17))) M := by
  rw [k102_0 (x0 := 64) (by rw [x_K64 H])]
theorem x103_0 {d : Nat} {M : hp} {Q : Option Value → hp → Prop} (H : XS M) : Wp none d 103 0 [(0, .ref 64)] [] M Q = Q (some (.int (hI M 64 18))) M := by
  rw [k103_0 (x0 := 64) (by rw [x_K64 H])]
theorem x104_0 {d : Nat} {x1 : Int32} {M : hp} {Q : Option Value → hp → Prop} (H : XS M) : Wp none d 104 0 [(0, .ref 64), (1, .int x1)] [] M Q = Wp none d 104 5 [(0, .ref 64), (1, .int x1)] [.int x1, .ref 65] M Q := by
  rw [k104_0 (x0 := 64) (by rw [x_K64 H]) (by rw [x_R64_0 H]; decide)]
  simp only [x_R64_0 H]
theorem x104_5 {d : Nat} {x1 : Int32} {s0 : Int32} {s1 : Nat} {M : hp} {Q : Option Value → hp → Prop} (H : XS M) (h1 : (hK M s1).1 = 0) : Wp none d 104 5 [(0, .ref 64), (1, .int x1)] [.int s0, .ref s1] M Q = Wp none d 9 0 [(0, .ref s1), (1, .int s0)] [] M (fun r M1 => Wp none d 104 8 [(0, .ref 64), (1, .int x1)] (r.toList ++ []) M1 Q) := by
  rw [k104_5 (x0 := 64) h1]
theorem x104_14 {d : Nat} {x1 : Int32} {s0 : Int32} {M : hp} {Q : Option Value → hp → Prop} (H : XS M) : Wp none d 104 14 [(0, .ref 64), (1, .int x1)] [.int s0, .ref 64] M Q = Wp none d 130 0 [(0, .ref 64), (1, .int s0)] [] M (fun r M1 => Wp none d 104 17 [(0, .ref 64), (1, .int x1)] (r.toList ++ []) M1 Q) := by
  rw [k104_14 (x0 := 64) (s1 := 64) (by rw [x_K64 H])]
theorem x104_18 {d : Nat} {x1 : Int32} {M : hp} {Q : Option Value → hp → Prop} (H : XS M) : Wp none d 104 18 [(0, .ref 64), (1, .int x1)] [] M Q = Wp none d 104 34 [(0, .ref 64), (1, .int x1), (2, .int (hI M 65 10))] [] (sI M 65 10 x1) Q := by
  rw [k104_18 (x0 := 64) (by rw [x_K64 H]) (by rw [x_R64_0 H]; decide) (by rw [x_R64_0 H, x_K65 H])]
  simp only [x_R64_0 H]
theorem x104_36 {d : Nat} {x1 : Int32} {x2 : Int32} {s0 : Int32} {M : hp} {Q : Option Value → hp → Prop} (H : XS M) : Wp none d 104 36 [(0, .ref 64), (1, .int x1), (2, .int x2)] [.int s0, .ref 64] M Q = Wp none d 131 0 [(0, .ref 64), (1, .int s0)] [] M (fun r M1 => Wp none d 104 39 [(0, .ref 64), (1, .int x1), (2, .int x2)] (r.toList ++ []) M1 Q) := by
  rw [k104_36 (x0 := 64) (s1 := 64) (by rw [x_K64 H])]
theorem x105_5 {d : Nat} {x1 : Int32} {x2 : Int32} {s0 : Int32} {s1 : Int32} {s2 : Int32} {s4 : Nat} {M : hp} {Q : Option Value → hp → Prop} (H : XS M) : Wp none d 105 5 [(0, .ref 64), (1, .int x1), (2, .int x2)] [.int s0, .int s1, .int s2, .ref 64, .ref s4] M Q = Wp none d 140 0 [(0, .ref 64), (1, .int s2), (2, .int s1), (3, .int s0)] [] M (fun r M1 => Wp none d 105 8 [(0, .ref 64), (1, .int x1), (2, .int x2)] (r.toList ++ [.ref s4]) M1 Q) := by
  rw [k105_5 (x0 := 64) (s3 := 64) (by rw [x_K64 H])]
theorem x105_8 {d : Nat} {x1 : Int32} {x2 : Int32} {s0 : Int32} {M : hp} {Q : Option Value → hp → Prop} (H : XS M) : Wp none d 105 8 [(0, .ref 64), (1, .int x1), (2, .int x2)] [.int s0, .ref 64] M Q = Wp none d 132 0 [(0, .ref 64), (1, .int s0)] [] M (fun r M1 => Wp none d 105 11 [(0, .ref 64), (1, .int x1), (2, .int x2)] (r.toList ++ []) M1 Q) := by
  rw [k105_8 (x0 := 64) (s1 := 64) (by rw [x_K64 H])]
theorem x106_5 {d : Nat} {x1 : Int32} {s0 : Int32} {s1 : Int32} {s2 : Int32} {s4 : Nat} {M : hp} {Q : Option Value → hp → Prop} (H : XS M) : Wp none d 106 5 [(0, .ref 64), (1, .int x1)] [.int s0, .int s1, .int s2, .ref 64, .ref s4] M Q = Wp none d 140 0 [(0, .ref 64), (1, .int s2), (2, .int s1), (3, .int s0)] [] M (fun r M1 => Wp none d 106 8 [(0, .ref 64), (1, .int x1)] (r.toList ++ [.ref s4]) M1 Q) := by
  rw [k106_5 (x0 := 64) (s3 := 64) (by rw [x_K64 H])]
theorem x106_8 {d : Nat} {x1 : Int32} {s0 : Int32} {M : hp} {Q : Option Value → hp → Prop} (H : XS M) : Wp none d 106 8 [(0, .ref 64), (1, .int x1)] [.int s0, .ref 64] M Q = Wp none d 132 0 [(0, .ref 64), (1, .int s0)] [] M (fun r M1 => Wp none d 106 11 [(0, .ref 64), (1, .int x1)] (r.toList ++ []) M1 Q) := by
  rw [k106_8 (x0 := 64) (s1 := 64) (by rw [x_K64 H])]
theorem x107_5 {d : Nat} {x1 : Int32} {x2 : Int32} {s0 : Int32} {s1 : Int32} {s2 : Int32} {s4 : Nat} {M : hp} {Q : Option Value → hp → Prop} (H : XS M) : Wp none d 107 5 [(0, .ref 64), (1, .int x1), (2, .int x2)] [.int s0, .int s1, .int s2, .ref 64, .ref s4] M Q = Wp none d 140 0 [(0, .ref 64), (1, .int s2), (2, .int s1), (3, .int s0)] [] M (fun r M1 => Wp none d 107 8 [(0, .ref 64), (1, .int x1), (2, .int x2)] (r.toList ++ [.ref s4]) M1 Q) := by
  rw [k107_5 (x0 := 64) (s3 := 64) (by rw [x_K64 H])]
theorem x107_8 {d : Nat} {x1 : Int32} {x2 : Int32} {s0 : Int32} {M : hp} {Q : Option Value → hp → Prop} (H : XS M) : Wp none d 107 8 [(0, .ref 64), (1, .int x1), (2, .int x2)] [.int s0, .ref 64] M Q = Wp none d 132 0 [(0, .ref 64), (1, .int s0)] [] M (fun r M1 => Wp none d 107 11 [(0, .ref 64), (1, .int x1), (2, .int x2)] (r.toList ++ []) M1 Q) := by
  rw [k107_8 (x0 := 64) (s1 := 64) (by rw [x_K64 H])]
theorem x108_5 {d : Nat} {s0 : Int32} {s1 : Int32} {s2 : Int32} {s4 : Nat} {M : hp} {Q : Option Value → hp → Prop} (H : XS M) : Wp none d 108 5 [(0, .ref 64)] [.int s0, .int s1, .int s2, .ref 64, .ref s4] M Q = Wp none d 140 0 [(0, .ref 64), (1, .int s2), (2, .int s1), (3, .int s0)] [] M (fun r M1 => Wp none d 108 8 [(0, .ref 64)] (r.toList ++ [.ref s4]) M1 Q) := by
  rw [k108_5 (x0 := 64) (s3 := 64) (by rw [x_K64 H])]
theorem x108_8 {d : Nat} {s0 : Int32} {M : hp} {Q : Option Value → hp → Prop} (H : XS M) : Wp none d 108 8 [(0, .ref 64)] [.int s0, .ref 64] M Q = Wp none d 132 0 [(0, .ref 64), (1, .int s0)] [] M (fun r M1 => Wp none d 108 11 [(0, .ref 64)] (r.toList ++ []) M1 Q) := by
  rw [k108_8 (x0 := 64) (s1 := 64) (by rw [x_K64 H])]
theorem x109_0 {d : Nat} {M : hp} {Q : Option Value → hp → Prop} (H : XS M) : Wp none d 109 0 [(0, .ref 64)] [] M Q = Wp none d 109 8 [(0, .ref 64)] [.ref 65, .ref 103] M Q := by
  rw [k109_0 (x0 := 64) (by rw [x_K64 H]) (by rw [x_R64_6 H]; decide) (by rw [x_R64_0 H]; decide)]
  simp only [x_R64_0 H, x_R64_6 H]
theorem x109_8 {d : Nat} {s0 : Nat} {s1 : Nat} {M : hp} {Q : Option Value → hp → Prop} (H : XS M) (h1 : (hK M s1).1 = 3) : Wp none d 109 8 [(0, .ref 64)] [.ref s0, .ref s1] M Q = Wp none d 47 0 [(0, .ref s1), (1, .ref s0)] [] M (fun r M1 => Wp none d 109 11 [(0, .ref 64)] (r.toList ++ []) M1 Q) := by
  rw [k109_8 (x0 := 64) h1]
theorem x109_20 {d : Nat} {x1 : Int32} {s0 : Int32} {M : hp} {Q : Option Value → hp → Prop} (H : XS M) : Wp none d 109 20 [(0, .ref 64), (1, .int x1)] [.int s0, .ref 64] M Q = Wp none d 130 0 [(0, .ref 64), (1, .int s0)] [] M (fun r M1 => Wp none d 109 23 [(0, .ref 64), (1, .int x1)] (r.toList ++ []) M1 Q) := by
  rw [k109_20 (x0 := 64) (s1 := 64) (by rw [x_K64 H])]
theorem x109_28 {d : Nat} {x1 : Int32} {s0 : Int32} {M : hp} {Q : Option Value → hp → Prop} (H : XS M) : Wp none d 109 28 [(0, .ref 64), (1, .int x1)] [.int s0, .ref 64] M Q = Wp none d 131 0 [(0, .ref 64), (1, .int s0)] [] M (fun r M1 => Wp none d 109 31 [(0, .ref 64), (1, .int x1)] (r.toList ++ []) M1 Q) := by
  rw [k109_28 (x0 := 64) (s1 := 64) (by rw [x_K64 H])]
theorem x110_0 {d : Nat} {x1 : Int32} {x2 : Int32} {M : hp} {Q : Option Value → hp → Prop} (H : XS M) : Wp none d 110 0 [(0, .ref 64), (1, .int x1), (2, .int x2)] [] M Q = Wp none d 110 5 [(0, .ref 64), (1, .int x1), (2, .int x2)] [.int x1, .ref 65] M Q := by
  rw [k110_0 (x0 := 64) (by rw [x_K64 H]) (by rw [x_R64_0 H]; decide)]
  simp only [x_R64_0 H]
theorem x110_5 {d : Nat} {x1 : Int32} {x2 : Int32} {s0 : Int32} {s1 : Nat} {M : hp} {Q : Option Value → hp → Prop} (H : XS M) (h1 : (hK M s1).1 = 0) : Wp none d 110 5 [(0, .ref 64), (1, .int x1), (2, .int x2)] [.int s0, .ref s1] M Q = Wp none d 7 0 [(0, .ref s1), (1, .int s0)] [] M (fun r M1 => Wp none d 110 8 [(0, .ref 64), (1, .int x1), (2, .int x2)] (r.toList ++ []) M1 Q) := by
  rw [k110_5 (x0 := 64) h1]
theorem x110_23 {d : Nat} {x1 : Int32} {x2 : Int32} {M : hp} {Q : Option Value → hp → Prop} (H : XS M) : Wp none d 110 23 [(0, .ref 64), (1, .int x1), (2, .int x2)] [] M Q = Wp none d 110 31 [(0, .ref 64), (1, .int x1), (2, .int x2)] [.ref 65, .ref 71] M Q := by
  rw [k110_23 (x0 := 64) (by rw [x_K64 H]) (by rw [x_R64_1 H]; decide) (by rw [x_R64_0 H]; decide)]
  simp only [x_R64_0 H, x_R64_1 H]
theorem x110_31 {d : Nat} {x1 : Int32} {x2 : Int32} {s0 : Nat} {s1 : Nat} {M : hp} {Q : Option Value → hp → Prop} (H : XS M) (h1 : (hK M s1).1 = 0) : Wp none d 110 31 [(0, .ref 64), (1, .int x1), (2, .int x2)] [.ref s0, .ref s1] M Q = Wp none d 1 0 [(0, .ref s1), (1, .ref s0)] [] M (fun r M1 => Wp none d 110 34 [(0, .ref 64), (1, .int x1), (2, .int x2)] (r.toList ++ []) M1 Q) := by
  rw [k110_31 (x0 := 64) h1]
theorem x110_34 {d : Nat} {x1 : Int32} {x2 : Int32} {M : hp} {Q : Option Value → hp → Prop} (H : XS M) : Wp none d 110 34 [(0, .ref 64), (1, .int x1), (2, .int x2)] [] M Q = Wp none d 110 43 [(0, .ref 64), (1, .int x1), (2, .int x2)] [.int x2, .ref 71, .ref 116] M Q := by
  rw [k110_34 (x0 := 64) (by rw [x_K64 H]) (by rw [x_R64_11 H]; decide) (by rw [x_R64_1 H]; decide)]
  simp only [x_R64_1 H, x_R64_11 H]
theorem x110_43 {d : Nat} {x1 : Int32} {x2 : Int32} {s0 : Int32} {s1 : Nat} {s2 : Nat} {M : hp} {Q : Option Value → hp → Prop} (H : XS M) (h1 : (hK M s2).1 = 2) : Wp none d 110 43 [(0, .ref 64), (1, .int x1), (2, .int x2)] [.int s0, .ref s1, .ref s2] M Q = Wp none d 42 0 [(0, .ref s2), (1, .ref s1), (2, .int s0)] [] M (fun r M1 => Wp none d 110 46 [(0, .ref 64), (1, .int x1), (2, .int x2)] (r.toList ++ []) M1 Q) := by
  rw [k110_43 (x0 := 64) h1]
theorem x110_46 {d : Nat} {x1 : Int32} {x2 : Int32} {M : hp} {Q : Option Value → hp → Prop} (H : XS M) : Wp none d 110 46 [(0, .ref 64), (1, .int x1), (2, .int x2)] [] M Q = Wp none d 110 54 [(0, .ref 64), (1, .int x1), (2, .int x2)] [.int x1, .ref 75] M Q := by
  rw [k110_46 (x0 := 64) (by rw [x_K64 H]) (by rw [x_R64_1 H]; decide) (by rw [x_R64_1 H, x_K71 H]) (by rw [x_R64_1 H, x_R71_3 H]; decide)]
  simp only [x_R64_1 H, x_R71_3 H]
theorem x111_0 {d : Nat} {x1 : Int32} {x2 : Int32} {M : hp} {Q : Option Value → hp → Prop} (H : XS M) : Wp none d 111 0 [(0, .ref 64), (1, .int x1), (2, .int x2)] [] M Q = Wp none d 111 5 [(0, .ref 64), (1, .int x1), (2, .int x2)] [.int x1, .ref 65] M Q := by
  rw [k111_0 (x0 := 64) (by rw [x_K64 H]) (by rw [x_R64_0 H]; decide)]
  simp only [x_R64_0 H]
theorem x111_5 {d : Nat} {x1 : Int32} {x2 : Int32} {s0 : Int32} {s1 : Nat} {M : hp} {Q : Option Value → hp → Prop} (H : XS M) (h1 : (hK M s1).1 = 0) : Wp none d 111 5 [(0, .ref 64), (1, .int x1), (2, .int x2)] [.int s0, .ref s1] M Q = Wp none d 7 0 [(0, .ref s1), (1, .int s0)] [] M (fun r M1 => Wp none d 111 8 [(0, .ref 64), (1, .int x1), (2, .int x2)] (r.toList ++ []) M1 Q) := by
  rw [k111_5 (x0 := 64) h1]
theorem x111_20 {d : Nat} {x1 : Int32} {x2 : Int32} {M : hp} {Q : Option Value → hp → Prop} (H : XS M) : Wp none d 111 20 [(0, .ref 64), (1, .int x1), (2, .int x2)] [] M Q = Wp none d 111 28 [(0, .ref 64), (1, .int x1), (2, .int x2)] [.ref 65, .ref 71] M Q := by
  rw [k111_20 (x0 := 64) (by rw [x_K64 H]) (by rw [x_R64_1 H]; decide) (by rw [x_R64_0 H]; decide)]
  simp only [x_R64_0 H, x_R64_1 H]
theorem x111_28 {d : Nat} {x1 : Int32} {x2 : Int32} {s0 : Nat} {s1 : Nat} {M : hp} {Q : Option Value → hp → Prop} (H : XS M) (h1 : (hK M s1).1 = 0) : Wp none d 111 28 [(0, .ref 64), (1, .int x1), (2, .int x2)] [.ref s0, .ref s1] M Q = Wp none d 1 0 [(0, .ref s1), (1, .ref s0)] [] M (fun r M1 => Wp none d 111 31 [(0, .ref 64), (1, .int x1), (2, .int x2)] (r.toList ++ []) M1 Q) := by
  rw [k111_28 (x0 := 64) h1]
theorem x111_39 {d : Nat} {x1 : Int32} {x2 : Int32} {x3 : Int32} {M : hp} {Q : Option Value → hp → Prop} (H : XS M) : Wp none d 111 39 [(0, .ref 64), (1, .int x1), (2, .int x2), (3, .int x3)] [] M Q = Wp none d 111 45 [(0, .ref 64), (1, .int x1), (2, .int x2), (3, .int x3)] [.int x2, .int x1, .ref 71] M Q := by
  rw [k111_39 (x0 := 64) (by rw [x_K64 H]) (by rw [x_R64_1 H]; decide)]
  simp only [x_R64_1 H]
theorem x111_45 {d : Nat} {x1 : Int32} {x2 : Int32} {x3 : Int32} {s0 : Int32} {s1 : Int32} {s2 : Nat} {M : hp} {Q : Option Value → hp → Prop} (H : XS M) (h1 : (hK M s2).1 = 0) : Wp none d 111 45 [(0, .ref 64), (1, .int x1), (2, .int x2), (3, .int x3)] [.int s0, .int s1, .ref s2] M Q = Wp none d 20 0 [(0, .ref s2), (1, .int s1), (2, .int s0)] [] M (fun r M1 => Wp none d 111 48 [(0, .ref 64), (1, .int x1), (2, .int x2), (3, .int x3)] (r.toList ++ []) M1 Q) := by
  rw [k111_45 (x0 := 64) h1]
theorem x111_53 {d : Nat} {x1 : Int32} {x2 : Int32} {x3 : Int32} {M : hp} {Q : Option Value → hp → Prop} (H : XS M) : Wp none d 111 53 [(0, .ref 64), (1, .int x1), (2, .int x2), (3, .int x3)] [] M Q = Wp none d 111 61 [(0, .ref 64), (1, .int x1), (2, .int x2), (3, .int x3)] [.ref 71, .ref 116] M Q := by
  rw [k111_53 (x0 := 64) (by rw [x_K64 H]) (by rw [x_R64_11 H]; decide) (by rw [x_R64_1 H]; decide)]
  simp only [x_R64_1 H, x_R64_11 H]
theorem x111_61 {d : Nat} {x1 : Int32} {x2 : Int32} {x3 : Int32} {s0 : Nat} {s1 : Nat} {M : hp} {Q : Option Value → hp → Prop} (H : XS M) (h1 : (hK M s1).1 = 2) : Wp none d 111 61 [(0, .ref 64), (1, .int x1), (2, .int x2), (3, .int x3)] [.ref s0, .ref s1] M Q = Wp none d 40 0 [(0, .ref s1), (1, .ref s0)] [] M (fun r M1 => Wp none d 111 64 [(0, .ref 64), (1, .int x1), (2, .int x2), (3, .int x3)] (r.toList ++ []) M1 Q) := by
  rw [k111_61 (x0 := 64) h1]
theorem x112_0 {d : Nat} {M : hp} {Q : Option Value → hp → Prop} (H : XS M) : Wp none d 112 0 [(0, .ref 64)] [] M Q = Wp none d 112 8 [(0, .ref 64)] [.ref 65, .ref 71] M Q := by
  rw [k112_0 (x0 := 64) (by rw [x_K64 H]) (by rw [x_R64_1 H]; decide) (by rw [x_R64_0 H]; decide)]
  simp only [x_R64_0 H, x_R64_1 H]
theorem x112_8 {d : Nat} {s0 : Nat} {s1 : Nat} {M : hp} {Q : Option Value → hp → Prop} (H : XS M) (h1 : (hK M s1).1 = 0) : Wp none d 112 8 [(0, .ref 64)] [.ref s0, .ref s1] M Q = Wp none d 1 0 [(0, .ref s1), (1, .ref s0)] [] M (fun r M1 => Wp none d 112 11 [(0, .ref 64)] (r.toList ++ []) M1 Q) := by
  rw [k112_8 (x0 := 64) h1]
theorem x112_21 {d : Nat} {x1 : Int32} {x2 : Int32} {M : hp} {Q : Option Value → hp → Prop} (H : XS M) : Wp none d 112 21 [(0, .ref 64), (1, .int x1), (2, .int x2)] [] M Q = Wp none d 112 29 [(0, .ref 64), (1, .int x1), (2, .int x2)] [.ref 71, .ref 116] M Q := by
  rw [k112_21 (x0 := 64) (by rw [x_K64 H]) (by rw [x_R64_11 H]; decide) (by rw [x_R64_1 H]; decide)]
  simp only [x_R64_1 H, x_R64_11 H]
theorem x112_29 {d : Nat} {x1 : Int32} {x2 : Int32} {s0 : Nat} {s1 : Nat} {M : hp} {Q : Option Value → hp → Prop} (H : XS M) (h1 : (hK M s1).1 = 2) : Wp none d 112 29 [(0, .ref 64), (1, .int x1), (2, .int x2)] [.ref s0, .ref s1] M Q = Wp none d 40 0 [(0, .ref s1), (1, .ref s0)] [] M (fun r M1 => Wp none d 112 32 [(0, .ref 64), (1, .int x1), (2, .int x2)] (r.toList ++ []) M1 Q) := by
  rw [k112_29 (x0 := 64) h1]
theorem x113_0 {d : Nat} {x1 : Int32} {x2 : Int32} {x3 : Int32} {x4 : Int32} {M : hp} {Q : Option Value → hp → Prop} (H : XS M) : Wp none d 113 0 [(0, .ref 64), (1, .int x1), (2, .int x2), (3, .int x3), (4, .int x4)] [] M Q = Wp none d 113 6 [(0, .ref 64), (1, .int x1), (2, .int x2), (3, .int x3), (4, .int x4)] [.int x3, .int x1, .ref 65] M Q := by
  rw [k113_0 (x0 := 64) (by rw [x_K64 H]) (by rw [x_R64_0 H]; decide)]
  simp only [x_R64_0 H]
theorem x113_6 {d : Nat} {x1 : Int32} {x2 : Int32} {x3 : Int32} {x4 : Int32} {s0 : Int32} {s1 : Int32} {s2 : Nat} {M : hp} {Q : Option Value → hp → Prop} (H : XS M) (h1 : (hK M s2).1 = 0) : Wp none d 113 6 [(0, .ref 64), (1, .int x1), (2, .int x2), (3, .int x3), (4, .int x4)] [.int s0, .int s1, .ref s2] M Q = Wp none d 8 0 [(0, .ref s2), (1, .int s1), (2, .int s0)] [] M (fun r M1 => Wp none d 113 9 [(0, .ref 64), (1, .int x1), (2, .int x2), (3, .int x3), (4, .int x4)] (r.toList ++ []) M1 Q) := by
  rw [k113_6 (x0 := 64) h1]
theorem x113_34 {d : Nat} {x1 : Int32} {x2 : Int32} {x3 : Int32} {x4 : Int32} {M : hp} {Q : Option Value → hp → Prop} (H : XS M) : Wp none d 113 34 [(0, .ref 64), (1, .int x1), (2, .int x2), (3, .int x3), (4, .int x4)] [] M Q = Wp none d 113 47 [(0, .ref 64), (1, .int x1), (2, .int x2), (3, .int x3), (4, .int x4)] [.int x4, .int x3, .int x2, .int x1, .ref 65, .ref 122] M Q := by
  rw [k113_34 (x0 := 64) (by rw [x_K64 H]) (by rw [x_R64_12 H]; decide) (by rw [x_R64_0 H]; decide)]
  simp only [x_R64_0 H, x_R64_12 H]
theorem x113_47 {d : Nat} {x1 : Int32} {x2 : Int32} {x3 : Int32} {x4 : Int32} {s0 : Int32} {s1 : Int32} {s2 : Int32} {s3 : Int32} {s4 : Nat} {s5 : Nat} {M : hp} {Q : Option Value → hp → Prop} (H : XS M) (h1 : (hK M s5).1 = 4) : Wp none d 113 47 [(0, .ref 64), (1, .int x1), (2, .int x2), (3, .int x3), (4, .int x4)] [.int s0, .int s1, .int s2, .int s3, .ref s4, .ref s5] M Q = Wp none d 49 0 [(0, .ref s5), (1, .ref s4), (2, .int s3), (3, .int s2), (4, .int s1), (5, .int s0)] [] M (fun r M1 => Wp none d 113 50 [(0, .ref 64), (1, .int x1), (2, .int x2), (3, .int x3), (4, .int x4)] (r.toList ++ []) M1 Q) := by
  rw [k113_47 (x0 := 64) h1]
theorem x114_0 {d : Nat} {x1 : Int32} {x2 : Int32} {x3 : Int32} {M : hp} {Q : Option Value → hp → Prop} (H : XS M) : Wp none d 114 0 [(0, .ref 64), (1, .int x1), (2, .int x2), (3, .int x3)] [] M Q = Wp none d 114 5 [(0, .ref 64), (1, .int x1), (2, .int x2), (3, .int x3)] [.int x1, .ref 65] M Q := by
  rw [k114_0 (x0 := 64) (by rw [x_K64 H]) (by rw [x_R64_0 H]; decide)]
  simp only [x_R64_0 H]
theorem x114_5 {d : Nat} {x1 : Int32} {x2 : Int32} {x3 : Int32} {s0 : Int32} {s1 : Nat} {M : hp} {Q : Option Value → hp → Prop} (H : XS M) (h1 : (hK M s1).1 = 0) : Wp none d 114 5 [(0, .ref 64), (1, .int x1), (2, .int x2), (3, .int x3)] [.int s0, .ref s1] M Q = Wp none d 7 0 [(0, .ref s1), (1, .int s0)] [] M (fun r M1 => Wp none d 114 8 [(0, .ref 64), (1, .int x1), (2, .int x2), (3, .int x3)] (r.toList ++ []) M1 Q) := by
  rw [k114_5 (x0 := 64) h1]
theorem x114_29 {d : Nat} {x1 : Int32} {x2 : Int32} {x3 : Int32} {M : hp} {Q : Option Value → hp → Prop} (H : XS M) : Wp none d 114 29 [(0, .ref 64), (1, .int x1), (2, .int x2), (3, .int x3)] [] M Q = Wp none d 114 35 [(0, .ref 64), (1, .int x1), (2, .int x2), (3, .int x3)] [.int x2, .int x1, .ref 65] M Q := by
  rw [k114_29 (x0 := 64) (by rw [x_K64 H]) (by rw [x_R64_0 H]; decide)]
  simp only [x_R64_0 H]
theorem x114_35 {d : Nat} {x1 : Int32} {x2 : Int32} {x3 : Int32} {s0 : Int32} {s1 : Int32} {s2 : Nat} {M : hp} {Q : Option Value → hp → Prop} (H : XS M) (h1 : (hK M s2).1 = 0) : Wp none d 114 35 [(0, .ref 64), (1, .int x1), (2, .int x2), (3, .int x3)] [.int s0, .int s1, .ref s2] M Q = Wp none d 20 0 [(0, .ref s2), (1, .int s1), (2, .int s0)] [] M (fun r M1 => Wp none d 114 38 [(0, .ref 64), (1, .int x1), (2, .int x2), (3, .int x3)] (r.toList ++ []) M1 Q) := by
  rw [k114_35 (x0 := 64) h1]
theorem x114_43 {d : Nat} {x1 : Int32} {x2 : Int32} {x3 : Int32} {M : hp} {Q : Option Value → hp → Prop} (H : XS M) : Wp none d 114 43 [(0, .ref 64), (1, .int x1), (2, .int x2), (3, .int x3)] [] M Q = Wp none d 114 53 [(0, .ref 64), (1, .int x1), (2, .int x2), (3, .int x3)] [.int x2, .int x1, .ref 65, .ref 122] M Q := by
  rw [k114_43 (x0 := 64) (by rw [x_K64 H]) (by rw [x_R64_12 H]; decide) (by rw [x_R64_0 H]; decide)]
  simp only [x_R64_0 H, x_R64_12 H]
theorem x114_53 {d : Nat} {x1 : Int32} {x2 : Int32} {x3 : Int32} {s0 : Int32} {s1 : Int32} {s2 : Nat} {s3 : Nat} {M : hp} {Q : Option Value → hp → Prop} (H : XS M) (h1 : (hK M s3).1 = 4) : Wp none d 114 53 [(0, .ref 64), (1, .int x1), (2, .int x2), (3, .int x3)] [.int s0, .int s1, .ref s2, .ref s3] M Q = Wp none d 50 0 [(0, .ref s3), (1, .ref s2), (2, .int s1), (3, .int s0)] [] M (fun r M1 => Wp none d 114 56 [(0, .ref 64), (1, .int x1), (2, .int x2), (3, .int x3)] (r.toList ++ []) M1 Q) := by
  rw [k114_53 (x0 := 64) h1]
theorem x115_0 {d : Nat} {x1 : Int32} {x2 : Int32} {M : hp} {Q : Option Value → hp → Prop} (H : XS M) : Wp none d 115 0 [(0, .ref 64), (1, .int x1), (2, .int x2)] [] M Q = Wp none d 115 11 [(0, .ref 64), (1, .int x1), (2, .int x2)] [.ref 65, .int (hI M 65 8)] M Q := by
  rw [k115_0 (x0 := 64) (by rw [x_K64 H]) (by rw [x_R64_0 H]; decide) (by rw [x_R64_0 H, x_K65 H])]
  simp only [x_R64_0 H]
theorem x115_11 {d : Nat} {x1 : Int32} {x2 : Int32} {s0 : Nat} {s1 : Int32} {M : hp} {Q : Option Value → hp → Prop} (H : XS M) (h1 : (hK M s0).1 = 0) : Wp none d 115 11 [(0, .ref 64), (1, .int x1), (2, .int x2)] [.ref s0, .int s1] M Q = Wp none d 14 0 [(0, .ref s0)] [] M (fun r M1 => Wp none d 115 14 [(0, .ref 64), (1, .int x1), (2, .int x2)] (r.toList ++ [.int s1]) M1 Q) := by
  rw [k115_11 (x0 := 64) h1]
theorem x115_44 {d : Nat} {x1 : Int32} {x2 : Int32} {x3 : Int32} {M : hp} {Q : Option Value → hp → Prop} (H : XS M) : Wp none d 115 44 [(0, .ref 64), (1, .int x1), (2, .int x2), (3, .int x3)] [] M Q = Wp none d 115 53 [(0, .ref 64), (1, .int x1), (2, .int x2), (3, .int x3)] [.int x1, .ref 65, .ref 122] M Q := by
  rw [k115_44 (x0 := 64) (by rw [x_K64 H]) (by rw [x_R64_12 H]; decide) (by rw [x_R64_0 H]; decide)]
  simp only [x_R64_0 H, x_R64_12 H]
theorem x115_53 {d : Nat} {x1 : Int32} {x2 : Int32} {x3 : Int32} {s0 : Int32} {s1 : Nat} {s2 : Nat} {M : hp} {Q : Option Value → hp → Prop} (H : XS M) (h1 : (hK M s2).1 = 4) : Wp none d 115 53 [(0, .ref 64), (1, .int x1), (2, .int x2), (3, .int x3)] [.int s0, .ref s1, .ref s2] M Q = Wp none d 51 0 [(0, .ref s2), (1, .ref s1), (2, .int s0)] [] M (fun r M1 => Wp none d 115 56 [(0, .ref 64), (1, .int x1), (2, .int x2), (3, .int x3)] (r.toList ++ []) M1 Q) := by
  rw [k115_53 (x0 := 64) h1]
theorem x115_61 {d : Nat} {x1 : Int32} {x2 : Int32} {x3 : Int32} {M : hp} {Q : Option Value → hp → Prop} (H : XS M) : Wp none d 115 61 [(0, .ref 64), (1, .int x1), (2, .int x2), (3, .int x3)] [] M Q = Wp none d 115 87 [(0, .ref 64), (1, .int x1), (2, .int x2), (3, .int x3)] [.int (hI M 122 3)] M Q := by
  rw [k115_61 (x0 := 64) (by rw [x_K64 H]) (by rw [x_R64_12 H]; decide) (by rw [x_R64_12 H, x_K122 H])]
  simp only [x_R64_12 H]
theorem x115_71 {d : Nat} {x1 : Int32} {x2 : Int32} {x3 : Int32} {M : hp} {Q : Option Value → hp → Prop} (H : XS M) : Wp none d 115 71 [(0, .ref 64), (1, .int x1), (2, .int x2), (3, .int x3)] [] M Q = Wp none d 115 84 [(0, .ref 64), (1, .int x1), (2, .int x2), (3, .int x3)] [.int x2, .int x3, .int (hI M 122 4), .ref 122] M Q := by
  rw [k115_71 (x0 := 64) (by rw [x_K64 H]) (by rw [x_R64_12 H]; decide) (by rw [x_R64_12 H, x_K122 H])]
  simp only [x_R64_12 H]
theorem x115_84 {d : Nat} {x1 : Int32} {x2 : Int32} {x3 : Int32} {s0 : Int32} {s1 : Int32} {s2 : Int32} {s3 : Nat} {M : hp} {Q : Option Value → hp → Prop} (H : XS M) (h1 : (hK M s3).1 = 4) : Wp none d 115 84 [(0, .ref 64), (1, .int x1), (2, .int x2), (3, .int x3)] [.int s0, .int s1, .int s2, .ref s3] M Q = Wp none d 54 0 [(0, .ref s3), (1, .int s2), (2, .int s1), (3, .int s0)] [] M (fun r M1 => Wp none d 115 87 [(0, .ref 64), (1, .int x1), (2, .int x2), (3, .int x3)] (r.toList ++ []) M1 Q) := by
  rw [k115_84 (x0 := 64) h1]
theorem x116_5 {d : Nat} {x1 : Int32} {M : hp} {Q : Option Value → hp → Prop} (H : XS M) : Wp none d 116 5 [(0, .ref 64), (1, .int x1)] [] M Q = Wp none d 116 9 [(0, .ref 64), (1, .int x1)] [.ref 65] M Q := by
  rw [k116_5 (x0 := 64) (by rw [x_K64 H]) (by rw [x_R64_0 H]; decide)]
  simp only [x_R64_0 H]
theorem x116_9 {d : Nat} {x1 : Int32} {s0 : Nat} {M : hp} {Q : Option Value → hp → Prop} (H : XS M) (h1 : (hK M s0).1 = 0) : Wp none d 116 9 [(0, .ref 64), (1, .int x1)] [.ref s0] M Q = Wp none d 23 0 [(0, .ref s0)] [] M (fun r M1 => Wp none d 116 12 [(0, .ref 64), (1, .int x1)] (r.toList ++ []) M1 Q) := by
  rw [k116_9 (x0 := 64) h1]
theorem x116_13 {d : Nat} {x1 : Int32} {M : hp} {Q : Option Value → hp → Prop} (H : XS M) : Wp none d 116 13 [(0, .ref 64), (1, .int x1)] [] M Q = Wp none d 116 18 [(0, .ref 64), (1, .int x1)] [.int x1, .ref 65] M Q := by
  rw [k116_13 (x0 := 64) (by rw [x_K64 H]) (by rw [x_R64_0 H]; decide)]
  simp only [x_R64_0 H]
theorem x116_18 {d : Nat} {x1 : Int32} {s0 : Int32} {s1 : Nat} {M : hp} {Q : Option Value → hp → Prop} (H : XS M) (h1 : (hK M s1).1 = 0) : Wp none d 116 18 [(0, .ref 64), (1, .int x1)] [.int s0, .ref s1] M Q = Wp none d 7 0 [(0, .ref s1), (1, .int s0)] [] M (fun r M1 => Wp none d 116 21 [(0, .ref 64), (1, .int x1)] (r.toList ++ []) M1 Q) := by
  rw [k116_18 (x0 := 64) h1]
theorem x116_24 {d : Nat} {x1 : Int32} {M : hp} {Q : Option Value → hp → Prop} (H : XS M) : Wp none d 116 24 [(0, .ref 64), (1, .int x1)] [] M Q = Wp none d 116 29 [(0, .ref 64), (1, .int x1)] [.int x1, .ref 65] M Q := by
  rw [k116_24 (x0 := 64) (by rw [x_K64 H]) (by rw [x_R64_0 H]; decide)]
  simp only [x_R64_0 H]
theorem x116_29 {d : Nat} {x1 : Int32} {s0 : Int32} {s1 : Nat} {M : hp} {Q : Option Value → hp → Prop} (H : XS M) (h1 : (hK M s1).1 = 0) : Wp none d 116 29 [(0, .ref 64), (1, .int x1)] [.int s0, .ref s1] M Q = Wp none d 24 0 [(0, .ref s1), (1, .int s0)] [] M (fun r M1 => Wp none d 116 32 [(0, .ref 64), (1, .int x1)] (r.toList ++ []) M1 Q) := by
  rw [k116_29 (x0 := 64) h1]
theorem x117_0 {d : Nat} {x1 : Int32} {M : hp} {Q : Option Value → hp → Prop} (H : XS M) : Wp none d 117 0 [(0, .ref 64), (1, .int x1)] [] M Q = Wp none d 117 7 [(0, .ref 64), (1, .int x1)] [.int (hI M 65 8)] M Q := by
  rw [k117_0 (x0 := 64) (by rw [x_K64 H]) (by rw [x_R64_0 H]; decide) (by rw [x_R64_0 H, x_K65 H])]
  simp only [x_R64_0 H]
theorem x117_28 {d : Nat} {x1 : Int32} {x2 : Int32} {x3 : Int32} {x4 : Int32} {M : hp} {Q : Option Value → hp → Prop} (H : XS M) : Wp none d 117 28 [(0, .ref 64), (1, .int x1), (2, .int x2), (3, .int x3), (4, .int x4)] [] M Q = Wp none d 117 37 [(0, .ref 64), (1, .int x1), (2, .int x2), (3, .int x3), (4, .int x4)] [.int (hI M 65 8), .int x4] M Q := by
  rw [k117_28 (x0 := 64) (by rw [x_K64 H]) (by rw [x_R64_0 H]; decide) (by rw [x_R64_0 H, x_K65 H])]
  simp only [x_R64_0 H]
theorem x117_40 {d : Nat} {x1 : Int32} {x2 : Int32} {x3 : Int32} {x4 : Int32} {M : hp} {Q : Option Value → hp → Prop} (H : XS M) : Wp none d 117 40 [(0, .ref 64), (1, .int x1), (2, .int x2), (3, .int x3), (4, .int x4)] [] M Q = Wp none d 117 50 [(0, .ref 64), (1, .int x1), (2, .int x2), (3, .int x3), (4, .int x4)] [.int x4, .ref 65, .ref 116] M Q := by
  rw [k117_40 (x0 := 64) (by rw [x_K64 H]) (by rw [x_R64_11 H]; decide) (by rw [x_R64_0 H]; decide)]
  simp only [x_R64_0 H, x_R64_11 H]
theorem x117_50 {d : Nat} {x1 : Int32} {x2 : Int32} {x3 : Int32} {x4 : Int32} {s0 : Int32} {s1 : Nat} {s2 : Nat} {M : hp} {Q : Option Value → hp → Prop} (H : XS M) (h1 : (hK M s2).1 = 2) : Wp none d 117 50 [(0, .ref 64), (1, .int x1), (2, .int x2), (3, .int x3), (4, .int x4)] [.int s0, .ref s1, .ref s2] M Q = Wp none d 39 0 [(0, .ref s2), (1, .ref s1), (2, .int s0)] [] M (fun r M1 => Wp none d 117 53 [(0, .ref 64), (1, .int x1), (2, .int x2), (3, .int x3), (4, .int x4)] (r.toList ++ []) M1 Q) := by
  rw [k117_50 (x0 := 64) h1]
theorem x118_18 {d : Nat} {x1 : Int32} {x2 : Int32} {s0 : Int32} {M : hp} {Q : Option Value → hp → Prop} (H : XS M) : Wp none d 118 18 [(0, .ref 64), (1, .int x1), (2, .int x2)] [.int s0, .ref 64] M Q = Wp none d 130 0 [(0, .ref 64), (1, .int s0)] [] M (fun r M1 => Wp none d 118 21 [(0, .ref 64), (1, .int x1), (2, .int x2)] (r.toList ++ []) M1 Q) := by
  rw [k118_18 (x0 := 64) (s1 := 64) (by rw [x_K64 H])]
theorem x118_22 {d : Nat} {x1 : Int32} {x2 : Int32} {M : hp} {Q : Option Value → hp → Prop} (H : XS M) : Wp none d 118 22 [(0, .ref 64), (1, .int x1), (2, .int x2)] [] M Q = Wp none d 118 31 [(0, .ref 64), (1, .int x1), (2, .int x2)] [.int 6, .int (hI M 65 11)] M Q := by
  rw [k118_22 (x0 := 64) (by rw [x_K64 H]) (by rw [x_R64_0 H]; decide) (by rw [x_R64_0 H, x_K65 H])]
  simp only [x_R64_0 H]
theorem x118_37 {d : Nat} {x1 : Int32} {x2 : Int32} {s0 : Int32} {M : hp} {Q : Option Value → hp → Prop} (H : XS M) : Wp none d 118 37 [(0, .ref 64), (1, .int x1), (2, .int x2)] [.int s0, .ref 64] M Q = Wp none d 130 0 [(0, .ref 64), (1, .int s0)] [] M (fun r M1 => Wp none d 118 40 [(0, .ref 64), (1, .int x1), (2, .int x2)] (r.toList ++ []) M1 Q) := by
  rw [k118_37 (x0 := 64) (s1 := 64) (by rw [x_K64 H])]
theorem x118_41 {d : Nat} {x1 : Int32} {x2 : Int32} {M : hp} {Q : Option Value → hp → Prop} (H : XS M) : Wp none d 118 41 [(0, .ref 64), (1, .int x1), (2, .int x2)] [] M Q = Wp none d 118 47 [(0, .ref 64), (1, .int x1), (2, .int x2)] [.int x2, .int x1, .ref 65] M Q := by
  rw [k118_41 (x0 := 64) (by rw [x_K64 H]) (by rw [x_R64_0 H]; decide)]
  simp only [x_R64_0 H]
theorem x118_47 {d : Nat} {x1 : Int32} {x2 : Int32} {s0 : Int32} {s1 : Int32} {s2 : Nat} {M : hp} {Q : Option Value → hp → Prop} (H : XS M) (h1 : (hK M s2).1 = 0) : Wp none d 118 47 [(0, .ref 64), (1, .int x1), (2, .int x2)] [.int s0, .int s1, .ref s2] M Q = Wp none d 25 0 [(0, .ref s2), (1, .int s1), (2, .int s0)] [] M (fun r M1 => Wp none d 118 50 [(0, .ref 64), (1, .int x1), (2, .int x2)] (r.toList ++ []) M1 Q) := by
  rw [k118_47 (x0 := 64) h1]
theorem x118_50 {d : Nat} {x1 : Int32} {x2 : Int32} {M : hp} {Q : Option Value → hp → Prop} (H : XS M) : Wp none d 118 50 [(0, .ref 64), (1, .int x1), (2, .int x2)] [] M Q = Wp none d 118 58 [(0, .ref 64), (1, .int x1), (2, .int x2)] [.int (hI M 65 11), .ref 64] M Q := by
  rw [k118_50 (x0 := 64) (by rw [x_K64 H]) (by rw [x_R64_0 H]; decide) (by rw [x_R64_0 H, x_K65 H])]
  simp only [x_R64_0 H]
theorem x118_58 {d : Nat} {x1 : Int32} {x2 : Int32} {s0 : Int32} {M : hp} {Q : Option Value → hp → Prop} (H : XS M) : Wp none d 118 58 [(0, .ref 64), (1, .int x1), (2, .int x2)] [.int s0, .ref 64] M Q = Wp none d 131 0 [(0, .ref 64), (1, .int s0)] [] M (fun r M1 => Wp none d 118 61 [(0, .ref 64), (1, .int x1), (2, .int x2)] (r.toList ++ []) M1 Q) := by
  rw [k118_58 (x0 := 64) (s1 := 64) (by rw [x_K64 H])]
theorem x119_0 {d : Nat} {M : hp} {Q : Option Value → hp → Prop} (H : XS M) : Wp none d 119 0 [(0, .ref 64)] [] M Q = Wp none d 119 12 [(0, .ref 64), (1, .int (hI M 65 11))] [.ref 65] M Q := by
  rw [k119_0 (x0 := 64) (by rw [x_K64 H]) (by rw [x_R64_0 H]; decide) (by rw [x_R64_0 H, x_K65 H])]
  simp only [x_R64_0 H]
theorem x119_12 {d : Nat} {x1 : Int32} {s0 : Nat} {M : hp} {Q : Option Value → hp → Prop} (H : XS M) (h1 : (hK M s0).1 = 0) : Wp none d 119 12 [(0, .ref 64), (1, .int x1)] [.ref s0] M Q = Wp none d 26 0 [(0, .ref s0)] [] M (fun r M1 => Wp none d 119 15 [(0, .ref 64), (1, .int x1)] (r.toList ++ []) M1 Q) := by
  rw [k119_12 (x0 := 64) h1]
theorem x120_4 {d : Nat} {x1 : Int32} {x2 : Int32} {M : hp} {Q : Option Value → hp → Prop} (H : XS M) : Wp none d 120 4 [(0, .ref 64), (1, .int x1), (2, .int x2)] [] M Q = Wp none d 120 12 [(0, .ref 64), (1, .int x1), (2, .int x2)] [.int (hI M 65 8), .int x2] M Q := by
  rw [k120_4 (x0 := 64) (by rw [x_K64 H]) (by rw [x_R64_0 H]; decide) (by rw [x_R64_0 H, x_K65 H])]
  simp only [x_R64_0 H]
theorem x120_15 {d : Nat} {x1 : Int32} {x2 : Int32} {M : hp} {Q : Option Value → hp → Prop} (H : XS M) : Wp none d 120 15 [(0, .ref 64), (1, .int x1), (2, .int x2)] [] M Q = Wp none d 120 20 [(0, .ref 64), (1, .int x1), (2, .int x2)] [.int x2, .ref 65] M Q := by
  rw [k120_15 (x0 := 64) (by rw [x_K64 H]) (by rw [x_R64_0 H]; decide)]
  simp only [x_R64_0 H]
theorem x120_20 {d : Nat} {x1 : Int32} {x2 : Int32} {s0 : Int32} {s1 : Nat} {M : hp} {Q : Option Value → hp → Prop} (H : XS M) (h1 : (hK M s1).1 = 0) : Wp none d 120 20 [(0, .ref 64), (1, .int x1), (2, .int x2)] [.int s0, .ref s1] M Q = Wp none d 27 0 [(0, .ref s1), (1, .int s0)] [] M (fun r M1 => Wp none d 120 23 [(0, .ref 64), (1, .int x1), (2, .int x2)] (r.toList ++ []) M1 Q) := by
  rw [k120_20 (x0 := 64) h1]
theorem x121_1 {d : Nat} {x1 : Int32} {M : hp} {Q : Option Value → hp → Prop} (H : XS M) : Wp none d 121 1 [(0, .ref 64), (1, .int x1)] [.ref 64] M Q = Wp none d 120 0 [(0, .ref 64)] [] M (fun r M1 => Wp none d 121 4 [(0, .ref 64), (1, .int x1)] (r.toList ++ []) M1 Q) := by
  rw [k121_1 (x0 := 64) (s0 := 64) (by rw [x_K64 H])]
theorem x121_36 {d : Nat} {x1 : Int32} {x2 : Int32} {x3 : Int32} {x4 : Int32} {x5 : Int32} {M : hp} {Q : Option Value → hp → Prop} (H : XS M) : Wp none d 121 36 [(0, .ref 64), (1, .int x1), (2, .int x2), (3, .int x3), (4, .int x4), (5, .int x5)] [] M Q = Wp none d 121 43 [(0, .ref 64), (1, .int x1), (2, .int x2), (3, .int x3), (4, .int x4), (5, .int x5)] [.int x2, .int x5, .ref 65] M Q := by
  rw [k121_36 (x0 := 64) (by rw [x_K64 H]) (by rw [x_R64_0 H]; decide)]
  simp only [x_R64_0 H]
theorem x121_43 {d : Nat} {x1 : Int32} {x2 : Int32} {x3 : Int32} {x4 : Int32} {x5 : Int32} {s0 : Int32} {s1 : Int32} {s2 : Nat} {M : hp} {Q : Option Value → hp → Prop} (H : XS M) (h1 : (hK M s2).1 = 0) : Wp none d 121 43 [(0, .ref 64), (1, .int x1), (2, .int x2), (3, .int x3), (4, .int x4), (5, .int x5)] [.int s0, .int s1, .ref s2] M Q = Wp none d 22 0 [(0, .ref s2), (1, .int s1), (2, .int s0)] [] M (fun r M1 => Wp none d 121 46 [(0, .ref 64), (1, .int x1), (2, .int x2), (3, .int x3), (4, .int x4), (5, .int x5)] (r.toList ++ []) M1 Q) := by
  rw [k121_43 (x0 := 64) h1]
theorem x122_25 {d : Nat} {x1 : Int32} {x2 : Int32} {M : hp} {Q : Option Value → hp → Prop} (H : XS M) : Wp none d 122 25 [(0, .ref 64), (1, .int x1), (2, .int x2)] [] M Q = Wp none d 122 29 [(0, .ref 64), (1, .int x1), (2, .int x2)] [.ref 124] M Q := by
  rw [k122_25 (x0 := 64) (by rw [x_K64 H]) (by rw [x_R64_13 H]; decide)]
  simp only [x_R64_13 H]
theorem x122_32 {d : Nat} {x1 : Int32} {x2 : Int32} {M : hp} {Q : Option Value → hp → Prop} (H : XS M) : Wp none d 122 32 [(0, .ref 64), (1, .int x1), (2, .int x2)] [] M Q = Wp none d 122 40 [(0, .ref 64), (1, .int x1), (2, .int x2)] [.long 1000000000000, .int 0, .ref 124] M Q := by
  rw [k122_32 (x0 := 64) (by rw [x_K64 H]) (by rw [x_R64_13 H]; decide)]
  simp only [x_R64_13 H]
theorem x122_52 {d : Nat} {x1 : Int32} {x2 : Int32} {x3 : Int32} {s0 : Int32} {M : hp} {Q : Option Value → hp → Prop} (H : XS M) : Wp none d 122 52 [(0, .ref 64), (1, .int x1), (2, .int x2), (3, .int x3)] [.int s0, .ref 64] M Q = Wp none d 142 0 [(0, .ref 64), (1, .int s0)] [] M (fun r M1 => Wp none d 122 55 [(0, .ref 64), (1, .int x1), (2, .int x2), (3, .int x3)] (r.toList ++ []) M1 Q) := by
  rw [k122_52 (x0 := 64) (s1 := 64) (by rw [x_K64 H])]
theorem x122_72 {d : Nat} {x1 : Int32} {x2 : Int32} {x3 : Int64} {x5 : Int32} {M : hp} {Q : Option Value → hp → Prop} (H : XS M) : Wp none d 122 72 [(0, .ref 64), (1, .int x1), (2, .int x2), (3, .long x3), (5, .int x5)] [] M Q = Wp none d 122 79 [(0, .ref 64), (1, .int x1), (2, .int x2), (3, .long x3), (5, .int x5)] [.int x5, .ref 124, .long x3] M Q := by
  rw [k122_72 (x0 := 64) (by rw [x_K64 H]) (by rw [x_R64_13 H]; decide)]
  simp only [x_R64_13 H]
theorem x123_0 {d : Nat} {x1 : Int32} {x2 : Int32} {x3 : Int32} {M : hp} {Q : Option Value → hp → Prop} (H : XS M) : Wp none d 123 0 [(0, .ref 64), (1, .int x1), (2, .int x2), (3, .int x3)] [] M Q = Wp none d 123 5 [(0, .ref 64), (1, .int x1), (2, .int x2), (3, .int x3)] [.int x1, .ref 65] M Q := by
  rw [k123_0 (x0 := 64) (by rw [x_K64 H]) (by rw [x_R64_0 H]; decide)]
  simp only [x_R64_0 H]
theorem x123_5 {d : Nat} {x1 : Int32} {x2 : Int32} {x3 : Int32} {s0 : Int32} {s1 : Nat} {M : hp} {Q : Option Value → hp → Prop} (H : XS M) (h1 : (hK M s1).1 = 0) : Wp none d 123 5 [(0, .ref 64), (1, .int x1), (2, .int x2), (3, .int x3)] [.int s0, .ref s1] M Q = Wp none d 9 0 [(0, .ref s1), (1, .int s0)] [] M (fun r M1 => Wp none d 123 8 [(0, .ref 64), (1, .int x1), (2, .int x2), (3, .int x3)] (r.toList ++ []) M1 Q) := by
  rw [k123_5 (x0 := 64) h1]
theorem x123_11 {d : Nat} {x1 : Int32} {x2 : Int32} {x3 : Int32} {M : hp} {Q : Option Value → hp → Prop} (H : XS M) : Wp none d 123 11 [(0, .ref 64), (1, .int x1), (2, .int x2), (3, .int x3)] [] M Q = Wp none d 123 17 [(0, .ref 64), (1, .int x1), (2, .int x2), (3, .int x3)] [.int x3, .int x2, .ref 65] M Q := by
  rw [k123_11 (x0 := 64) (by rw [x_K64 H]) (by rw [x_R64_0 H]; decide)]
  simp only [x_R64_0 H]
theorem x123_17 {d : Nat} {x1 : Int32} {x2 : Int32} {x3 : Int32} {s0 : Int32} {s1 : Int32} {s2 : Nat} {M : hp} {Q : Option Value → hp → Prop} (H : XS M) (h1 : (hK M s2).1 = 0) : Wp none d 123 17 [(0, .ref 64), (1, .int x1), (2, .int x2), (3, .int x3)] [.int s0, .int s1, .ref s2] M Q = Wp none d 8 0 [(0, .ref s2), (1, .int s1), (2, .int s0)] [] M (fun r M1 => Wp none d 123 20 [(0, .ref 64), (1, .int x1), (2, .int x2), (3, .int x3)] (r.toList ++ []) M1 Q) := by
  rw [k123_17 (x0 := 64) h1]
theorem x123_25 {d : Nat} {x1 : Int32} {x2 : Int32} {x3 : Int32} {M : hp} {Q : Option Value → hp → Prop} (H : XS M) : Wp none d 123 25 [(0, .ref 64), (1, .int x1), (2, .int x2), (3, .int x3)] [] M Q = Wp none d 123 38 [(0, .ref 64), (1, .int x1), (2, .int x2), (3, .int x3)] [.int x1, .ref 65, .ref 65, .ref 116] M Q := by
  rw [k123_25 (x0 := 64) (by rw [x_K64 H]) (by rw [x_R64_11 H]; decide) (by rw [x_R64_0 H]; decide)]
  simp only [x_R64_0 H, x_R64_11 H]
theorem x123_38 {d : Nat} {x1 : Int32} {x2 : Int32} {x3 : Int32} {s0 : Int32} {s1 : Nat} {s2 : Nat} {s3 : Nat} {M : hp} {Q : Option Value → hp → Prop} (H : XS M) (h1 : (hK M s1).1 = 0) : Wp none d 123 38 [(0, .ref 64), (1, .int x1), (2, .int x2), (3, .int x3)] [.int s0, .ref s1, .ref s2, .ref s3] M Q = Wp none d 10 0 [(0, .ref s1), (1, .int s0)] [] M (fun r M1 => Wp none d 123 41 [(0, .ref 64), (1, .int x1), (2, .int x2), (3, .int x3)] (r.toList ++ [.ref s2, .ref s3]) M1 Q) := by
  rw [k123_38 (x0 := 64) h1]
theorem x123_45n {d : Nat} {x1 : Int32} {x2 : Int32} {x3 : Int32} {s0 : Int32} {s1 : Int32} {s2 : Int32} {s3 : Int32} {s5 : Nat} {s6 : Nat} {M : hp} {Q : Option Value → hp → Prop} (H : XS M) (h1 : (hK M s6).1 = 2) : Wp none d 123 45 [(0, .ref 64), (1, .int x1), (2, .int x2), (3, .int x3)] [.int s0, .int s1, .int s2, .int s3, .null, .ref s5, .ref s6] M Q = Wp none d 35 0 [(0, .ref s6), (1, .ref s5), (2, .null), (3, .int s3), (4, .int s2), (5, .int s1), (6, .int s0)] [] M (fun r M1 => Wp none d 123 48 [(0, .ref 64), (1, .int x1), (2, .int x2), (3, .int x3)] (r.toList ++ []) M1 Q) := by
  rw [k123_45n (x0 := 64) h1]
theorem x123_45r {d : Nat} {x1 : Int32} {x2 : Int32} {x3 : Int32} {s0 : Int32} {s1 : Int32} {s2 : Int32} {s3 : Int32} {s4 : Nat} {s5 : Nat} {s6 : Nat} {M : hp} {Q : Option Value → hp → Prop} (H : XS M) (h1 : (hK M s6).1 = 2) : Wp none d 123 45 [(0, .ref 64), (1, .int x1), (2, .int x2), (3, .int x3)] [.int s0, .int s1, .int s2, .int s3, .ref s4, .ref s5, .ref s6] M Q = Wp none d 35 0 [(0, .ref s6), (1, .ref s5), (2, .ref s4), (3, .int s3), (4, .int s2), (5, .int s1), (6, .int s0)] [] M (fun r M1 => Wp none d 123 48 [(0, .ref 64), (1, .int x1), (2, .int x2), (3, .int x3)] (r.toList ++ []) M1 Q) := by
  rw [k123_45r (x0 := 64) h1]
theorem x124_24 {d : Nat} {x1 : Int32} {x2 : Int32} {s0 : Int32} {M : hp} {Q : Option Value → hp → Prop} (H : XS M) : Wp none d 124 24 [(0, .ref 64), (1, .int x1), (2, .int x2)] [.int s0, .ref 64] M Q = Wp none d 130 0 [(0, .ref 64), (1, .int s0)] [] M (fun r M1 => Wp none d 124 27 [(0, .ref 64), (1, .int x1), (2, .int x2)] (r.toList ++ []) M1 Q) := by
  rw [k124_24 (x0 := 64) (s1 := 64) (by rw [x_K64 H])]
theorem x124_28 {d : Nat} {x1 : Int32} {x2 : Int32} {M : hp} {Q : Option Value → hp → Prop} (H : XS M) : Wp none d 124 28 [(0, .ref 64), (1, .int x1), (2, .int x2)] [] M Q = Wp none d 124 35 [(0, .ref 64), (1, .int x1), (2, .int x2)] [.int (hI M 65 8)] M Q := by
  rw [k124_28 (x0 := 64) (by rw [x_K64 H]) (by rw [x_R64_0 H]; decide) (by rw [x_R64_0 H, x_K65 H])]
  simp only [x_R64_0 H]
theorem x124_41 {d : Nat} {x1 : Int32} {x2 : Int32} {s0 : Int32} {M : hp} {Q : Option Value → hp → Prop} (H : XS M) : Wp none d 124 41 [(0, .ref 64), (1, .int x1), (2, .int x2)] [.int s0, .ref 64] M Q = Wp none d 130 0 [(0, .ref 64), (1, .int s0)] [] M (fun r M1 => Wp none d 124 44 [(0, .ref 64), (1, .int x1), (2, .int x2)] (r.toList ++ []) M1 Q) := by
  rw [k124_41 (x0 := 64) (s1 := 64) (by rw [x_K64 H])]
theorem x124_45 {d : Nat} {x1 : Int32} {x2 : Int32} {M : hp} {Q : Option Value → hp → Prop} (H : XS M) : Wp none d 124 45 [(0, .ref 64), (1, .int x1), (2, .int x2)] [] M Q = Wp none d 124 53 [(0, .ref 64), (1, .int x1), (2, .int x2)] [.ref 65, .ref 83] M Q := by
  rw [k124_45 (x0 := 64) (by rw [x_K64 H]) (by rw [x_R64_3 H]; decide) (by rw [x_R64_0 H]; decide)]
  simp only [x_R64_0 H, x_R64_3 H]
theorem x124_53 {d : Nat} {x1 : Int32} {x2 : Int32} {s0 : Nat} {s1 : Nat} {M : hp} {Q : Option Value → hp → Prop} (H : XS M) (h1 : (hK M s1).1 = 0) : Wp none d 124 53 [(0, .ref 64), (1, .int x1), (2, .int x2)] [.ref s0, .ref s1] M Q = Wp none d 1 0 [(0, .ref s1), (1, .ref s0)] [] M (fun r M1 => Wp none d 124 56 [(0, .ref 64), (1, .int x1), (2, .int x2)] (r.toList ++ []) M1 Q) := by
  rw [k124_53 (x0 := 64) h1]
theorem x124_56 {d : Nat} {x1 : Int32} {x2 : Int32} {M : hp} {Q : Option Value → hp → Prop} (H : XS M) : Wp none d 124 56 [(0, .ref 64), (1, .int x1), (2, .int x2)] [] M Q = Wp none d 124 61 [(0, .ref 64), (1, .int x1), (2, .int x2)] [] (sI M 64 15 1) Q := by
  rw [k124_56 (x0 := 64) (by rw [x_K64 H])]
theorem x124_75 {d : Nat} {x1 : Int32} {x2 : Int32} {x3 : Int32} {x4 : Int32} {x5 : Int32} {M : hp} {Q : Option Value → hp → Prop} (H : XS M) : Wp none d 124 75 [(0, .ref 64), (1, .int x1), (2, .int x2), (3, .int x3), (4, .int x4), (5, .int x5)] [] M Q = Wp none d 124 85 [(0, .ref 64), (1, .int x1), (2, .int x2), (3, .int x3), (4, .int x4), (5, .int x5)] [.int 999, .int (hI M 83 5)] M Q := by
  rw [k124_75 (x0 := 64) (by rw [x_K64 H]) (by rw [x_R64_3 H]; decide) (by rw [x_R64_3 H, x_K83 H])]
  simp only [x_R64_3 H]
theorem x124_90 {d : Nat} {x1 : Int32} {x2 : Int32} {x3 : Int32} {x4 : Int32} {x5 : Int32} {s0 : Int32} {M : hp} {Q : Option Value → hp → Prop} (H : XS M) : Wp none d 124 90 [(0, .ref 64), (1, .int x1), (2, .int x2), (3, .int x3), (4, .int x4), (5, .int x5)] [.int s0, .ref 64] M Q = Wp none d 143 0 [(0, .ref 64), (1, .int s0)] [] M (fun r M1 => Wp none d 124 93 [(0, .ref 64), (1, .int x1), (2, .int x2), (3, .int x3), (4, .int x4), (5, .int x5)] (r.toList ++ []) M1 Q) := by
  rw [k124_90 (x0 := 64) (s1 := 64) (by rw [x_K64 H])]
theorem x124_93 {d : Nat} {x1 : Int32} {x2 : Int32} {x3 : Int32} {x4 : Int32} {x5 : Int32} {s0 : Int32} {M : hp} {Q : Option Value → hp → Prop} (H : XS M) : Wp none d 124 93 [(0, .ref 64), (1, .int x1), (2, .int x2), (3, .int x3), (4, .int x4), (5, .int x5)] [.int s0] M Q = Wp none d 124 104 [(0, .ref 64), (1, .int x1), (2, .int x2), (3, .int s0), (4, .int x4), (5, .int x5)] [.ref 83, .ref 116, .int x4] M Q := by
  rw [k124_93 (x0 := 64) (by rw [x_K64 H]) (by rw [x_R64_11 H]; decide) (by rw [x_R64_3 H]; decide)]
  simp only [x_R64_3 H, x_R64_11 H]
theorem x124_104 {d : Nat} {x1 : Int32} {x2 : Int32} {x3 : Int32} {x4 : Int32} {x5 : Int32} {s0 : Nat} {s1 : Nat} {s2 : Int32} {M : hp} {Q : Option Value → hp → Prop} (H : XS M) (h1 : (hK M s1).1 = 2) : Wp none d 124 104 [(0, .ref 64), (1, .int x1), (2, .int x2), (3, .int x3), (4, .int x4), (5, .int x5)] [.ref s0, .ref s1, .int s2] M Q = Wp none d 40 0 [(0, .ref s1), (1, .ref s0)] [] M (fun r M1 => Wp none d 124 107 [(0, .ref 64), (1, .int x1), (2, .int x2), (3, .int x3), (4, .int x4), (5, .int x5)] (r.toList ++ [.int s2]) M1 Q) := by
  rw [k124_104 (x0 := 64) h1]
theorem x124_119 {d : Nat} {x1 : Int32} {x2 : Int32} {x3 : Int32} {x4 : Int32} {x5 : Int32} {s0 : Int32} {M : hp} {Q : Option Value → hp → Prop} (H : XS M) : Wp none d 124 119 [(0, .ref 64), (1, .int x1), (2, .int x2), (3, .int x3), (4, .int x4), (5, .int x5)] [.int s0, .ref 64] M Q = Wp none d 131 0 [(0, .ref 64), (1, .int s0)] [] M (fun r M1 => Wp none d 124 122 [(0, .ref 64), (1, .int x1), (2, .int x2), (3, .int x3), (4, .int x4), (5, .int x5)] (r.toList ++ []) M1 Q) := by
  rw [k124_119 (x0 := 64) (s1 := 64) (by rw [x_K64 H])]
theorem x125_0 {d : Nat} {x1 : Int32} {x2 : Int32} {M : hp} {Q : Option Value → hp → Prop} (H : XS M) : Wp none d 125 0 [(0, .ref 64), (1, .int x1), (2, .int x2)] [] M Q = Wp none d 125 4 [(0, .ref 64), (1, .int x1), (2, .int x2)] [.int (hI M 64 15)] M Q := by
  rw [k125_0 (x0 := 64) (by rw [x_K64 H])]
theorem x125_7 {d : Nat} {x1 : Int32} {x2 : Int32} {M : hp} {Q : Option Value → hp → Prop} (H : XS M) : Wp none d 125 7 [(0, .ref 64), (1, .int x1), (2, .int x2)] [] M Q = Wp none d 125 12 [(0, .ref 64), (1, .int x1), (2, .int x2)] [.int x1, .ref 83] M Q := by
  rw [k125_7 (x0 := 64) (by rw [x_K64 H]) (by rw [x_R64_3 H]; decide)]
  simp only [x_R64_3 H]
theorem x125_12 {d : Nat} {x1 : Int32} {x2 : Int32} {s0 : Int32} {s1 : Nat} {M : hp} {Q : Option Value → hp → Prop} (H : XS M) (h1 : (hK M s1).1 = 0) : Wp none d 125 12 [(0, .ref 64), (1, .int x1), (2, .int x2)] [.int s0, .ref s1] M Q = Wp none d 7 0 [(0, .ref s1), (1, .int s0)] [] M (fun r M1 => Wp none d 125 15 [(0, .ref 64), (1, .int x1), (2, .int x2)] (r.toList ++ []) M1 Q) := by
  rw [k125_12 (x0 := 64) h1]
theorem x125_24 {d : Nat} {x1 : Int32} {x2 : Int32} {M : hp} {Q : Option Value → hp → Prop} (H : XS M) : Wp none d 125 24 [(0, .ref 64), (1, .int x1), (2, .int x2)] [] M Q = Wp none d 125 32 [(0, .ref 64), (1, .int x1), (2, .int x2)] [.int x1, .ref 86] M Q := by
  rw [k125_24 (x0 := 64) (by rw [x_K64 H]) (by rw [x_R64_3 H]; decide) (by rw [x_R64_3 H, x_K83 H]) (by rw [x_R64_3 H, x_R83_2 H]; decide)]
  simp only [x_R64_3 H, x_R83_2 H]
theorem x125_41 {d : Nat} {x1 : Int32} {x2 : Int32} {M : hp} {Q : Option Value → hp → Prop} (H : XS M) : Wp none d 125 41 [(0, .ref 64), (1, .int x1), (2, .int x2)] [] M Q = Wp none d 125 49 [(0, .ref 64), (1, .int x1), (2, .int x2)] [.int x1, .ref 87] M Q := by
  rw [k125_41 (x0 := 64) (by rw [x_K64 H]) (by rw [x_R64_3 H]; decide) (by rw [x_R64_3 H, x_K83 H]) (by rw [x_R64_3 H, x_R83_3 H]; decide)]
  simp only [x_R64_3 H, x_R83_3 H]
theorem x126_4 {d : Nat} {x1 : Int32} {M : hp} {Q : Option Value → hp → Prop} (H : XS M) : Wp none d 126 4 [(0, .ref 64), (1, .int x1)] [] M Q = Wp none d 126 10 [(0, .ref 64), (1, .int x1)] [.int (Int32.ofNat 2), .int x1] M Q := by
  rw [k126_4 (x0 := 64) (by rw [x_K64 H]) (by rw [x_R64_4 H]; decide) (by rw [x_R64_4 H]; decide) (by rw [x_R64_4 H, x_K89 H]; decide)]
  simp only [x_R64_4 H, x_K89 H]
theorem x126_13 {d : Nat} {x1 : Int32} {M : hp} {Q : Option Value → hp → Prop} (H : XS M) : Wp none d 126 13 [(0, .ref 64), (1, .int x1)] [] M Q = Wp none d 126 19 [(0, .ref 64), (1, .int x1)] [.int (Int32.ofNat 2), .int x1] M Q := by
  rw [k126_13 (x0 := 64) (by rw [x_K64 H]) (by rw [x_R64_5 H]; decide) (by rw [x_R64_5 H]; decide) (by rw [x_R64_5 H, x_K102 H]; decide)]
  simp only [x_R64_5 H, x_K102 H]
theorem x126_24 {d : Nat} {x1 : Int32} {s0 : Int32} {M : hp} {Q : Option Value → hp → Prop} (H : XS M) : Wp none d 126 24 [(0, .ref 64), (1, .int x1)] [.int s0, .ref 64] M Q = Wp none d 130 0 [(0, .ref 64), (1, .int s0)] [] M (fun r M1 => Wp none d 126 27 [(0, .ref 64), (1, .int x1)] (r.toList ++ []) M1 Q) := by
  rw [k126_24 (x0 := 64) (s1 := 64) (by rw [x_K64 H])]
theorem x126_28 {d : Nat} {x1 : Int32} {M : hp} {Q : Option Value → hp → Prop} (H : XS M) (h3 : (hK M 89).1 = 23 ∨ (hK M 89).1 = 24) (h4 : vin x1 2 = true) : Wp none d 126 28 [(0, .ref 64), (1, .int x1)] [] M Q = Wp none d 126 34 [(0, .ref 64), (1, .int x1)] [krv (hR M 89 x1.toNatClampNeg)] M Q := by
  rw [k126_28 (x0 := 64) (by rw [x_K64 H]) (by rw [x_R64_4 H]; decide) (by rw [x_R64_4 H]; exact h3) (by rw [x_R64_4 H, x_K89 H]; exact h4)]
  simp only [x_R64_4 H]
theorem x126_34n {d : Nat} {x1 : Int32} {M : hp} {Q : Option Value → hp → Prop} (H : XS M) : Wp none d 126 34 [(0, .ref 64), (1, .int x1)] [.null] M Q = Wp none d 126 38 [(0, .ref 64), (1, .int x1)] [.ref 65, .null] M Q := by
  rw [k126_34n (x0 := 64) (by rw [x_K64 H]) (by rw [x_R64_0 H]; decide)]
  simp only [x_R64_0 H]
theorem x126_34r {d : Nat} {x1 : Int32} {s0 : Nat} {M : hp} {Q : Option Value → hp → Prop} (H : XS M) : Wp none d 126 34 [(0, .ref 64), (1, .int x1)] [.ref s0] M Q = Wp none d 126 38 [(0, .ref 64), (1, .int x1)] [.ref 65, .ref s0] M Q := by
  rw [k126_34r (x0 := 64) (by rw [x_K64 H]) (by rw [x_R64_0 H]; decide)]
  simp only [x_R64_0 H]
theorem x126_38r {d : Nat} {x1 : Int32} {s0 : Nat} {s1 : Nat} {M : hp} {Q : Option Value → hp → Prop} (H : XS M) (h1 : (hK M s1).1 = 0) : Wp none d 126 38 [(0, .ref 64), (1, .int x1)] [.ref s0, .ref s1] M Q = Wp none d 1 0 [(0, .ref s1), (1, .ref s0)] [] M (fun r M1 => Wp none d 126 41 [(0, .ref 64), (1, .int x1)] (r.toList ++ []) M1 Q) := by
  rw [k126_38r (x0 := 64) h1]
theorem x126_41 {d : Nat} {x1 : Int32} {M : hp} {Q : Option Value → hp → Prop} (H : XS M) (h4 : vin x1 2 = true) : Wp none d 126 41 [(0, .ref 64), (1, .int x1)] [] M Q = Wp none d 126 48 [(0, .ref 64), (1, .int x1)] [] (sI M 102 x1.toNatClampNeg (vp_nar .boolean 1)) Q := by
  rw [k126_41 (x0 := 64) (by rw [x_K64 H]) (by rw [x_R64_5 H]; decide) (by rw [x_R64_5 H, x_K102 H]) (by rw [x_R64_5 H, x_K102 H]; exact h4)]
  simp only [x_R64_5 H]
theorem x126_50 {d : Nat} {x1 : Int32} {s0 : Int32} {M : hp} {Q : Option Value → hp → Prop} (H : XS M) : Wp none d 126 50 [(0, .ref 64), (1, .int x1)] [.int s0, .ref 64] M Q = Wp none d 131 0 [(0, .ref 64), (1, .int s0)] [] M (fun r M1 => Wp none d 126 53 [(0, .ref 64), (1, .int x1)] (r.toList ++ []) M1 Q) := by
  rw [k126_50 (x0 := 64) (s1 := 64) (by rw [x_K64 H])]
theorem x127_4 {d : Nat} {x1 : Int32} {M : hp} {Q : Option Value → hp → Prop} (H : XS M) : Wp none d 127 4 [(0, .ref 64), (1, .int x1)] [] M Q = Wp none d 127 10 [(0, .ref 64), (1, .int x1)] [.int (Int32.ofNat 2), .int x1] M Q := by
  rw [k127_4 (x0 := 64) (by rw [x_K64 H]) (by rw [x_R64_4 H]; decide) (by rw [x_R64_4 H]; decide) (by rw [x_R64_4 H, x_K89 H]; decide)]
  simp only [x_R64_4 H, x_K89 H]
theorem x127_13 {d : Nat} {x1 : Int32} {M : hp} {Q : Option Value → hp → Prop} (H : XS M) : Wp none d 127 13 [(0, .ref 64), (1, .int x1)] [] M Q = Wp none d 127 19 [(0, .ref 64), (1, .int x1)] [.int (Int32.ofNat 2), .int x1] M Q := by
  rw [k127_13 (x0 := 64) (by rw [x_K64 H]) (by rw [x_R64_5 H]; decide) (by rw [x_R64_5 H]; decide) (by rw [x_R64_5 H, x_K102 H]; decide)]
  simp only [x_R64_5 H, x_K102 H]
theorem x127_24 {d : Nat} {x1 : Int32} {s0 : Int32} {M : hp} {Q : Option Value → hp → Prop} (H : XS M) : Wp none d 127 24 [(0, .ref 64), (1, .int x1)] [.int s0, .ref 64] M Q = Wp none d 130 0 [(0, .ref 64), (1, .int s0)] [] M (fun r M1 => Wp none d 127 27 [(0, .ref 64), (1, .int x1)] (r.toList ++ []) M1 Q) := by
  rw [k127_24 (x0 := 64) (s1 := 64) (by rw [x_K64 H])]
theorem x127_28 {d : Nat} {x1 : Int32} {M : hp} {Q : Option Value → hp → Prop} (H : XS M) (h4 : vin x1 2 = true) : Wp none d 127 28 [(0, .ref 64), (1, .int x1)] [] M Q = Wp none d 127 34 [(0, .ref 64), (1, .int x1)] [.int (hI M 102 x1.toNatClampNeg)] M Q := by
  rw [k127_28 (x0 := 64) (by rw [x_K64 H]) (by rw [x_R64_5 H]; decide) (by rw [x_R64_5 H, x_K102 H]) (by rw [x_R64_5 H, x_K102 H]; exact h4)]
  simp only [x_R64_5 H]
theorem x127_40 {d : Nat} {x1 : Int32} {s0 : Int32} {M : hp} {Q : Option Value → hp → Prop} (H : XS M) : Wp none d 127 40 [(0, .ref 64), (1, .int x1)] [.int s0, .ref 64] M Q = Wp none d 130 0 [(0, .ref 64), (1, .int s0)] [] M (fun r M1 => Wp none d 127 43 [(0, .ref 64), (1, .int x1)] (r.toList ++ []) M1 Q) := by
  rw [k127_40 (x0 := 64) (s1 := 64) (by rw [x_K64 H])]
theorem x127_44 {d : Nat} {x1 : Int32} {M : hp} {Q : Option Value → hp → Prop} (H : XS M) (h4 : (hK M 89).1 = 23 ∨ (hK M 89).1 = 24) (h5 : vin x1 2 = true) : Wp none d 127 44 [(0, .ref 64), (1, .int x1)] [] M Q = Wp none d 127 54 [(0, .ref 64), (1, .int x1)] [krv (hR M 89 x1.toNatClampNeg), .ref 65] M Q := by
  rw [k127_44 (x0 := 64) (by rw [x_K64 H]) (by rw [x_R64_0 H]; decide) (by rw [x_R64_4 H]; decide) (by rw [x_R64_4 H]; exact h4) (by rw [x_R64_4 H, x_K89 H]; exact h5)]
  simp only [x_R64_4 H, x_R64_0 H]
theorem x127_54n {d : Nat} {x1 : Int32} {s1 : Nat} {M : hp} {Q : Option Value → hp → Prop} (H : XS M) (h1 : (hK M s1).1 = 0) : Wp none d 127 54 [(0, .ref 64), (1, .int x1)] [.null, .ref s1] M Q = Wp none d 1 0 [(0, .ref s1), (1, .null)] [] M (fun r M1 => Wp none d 127 57 [(0, .ref 64), (1, .int x1)] (r.toList ++ []) M1 Q) := by
  rw [k127_54n (x0 := 64) h1]
theorem x127_54r {d : Nat} {x1 : Int32} {s0 : Nat} {s1 : Nat} {M : hp} {Q : Option Value → hp → Prop} (H : XS M) (h1 : (hK M s1).1 = 0) : Wp none d 127 54 [(0, .ref 64), (1, .int x1)] [.ref s0, .ref s1] M Q = Wp none d 1 0 [(0, .ref s1), (1, .ref s0)] [] M (fun r M1 => Wp none d 127 57 [(0, .ref 64), (1, .int x1)] (r.toList ++ []) M1 Q) := by
  rw [k127_54r (x0 := 64) h1]
theorem x127_57 {d : Nat} {x1 : Int32} {M : hp} {Q : Option Value → hp → Prop} (H : XS M) : Wp none d 127 57 [(0, .ref 64), (1, .int x1)] [] M Q = Wp none d 127 61 [(0, .ref 64), (1, .int x1)] [.ref 103] M Q := by
  rw [k127_57 (x0 := 64) (by rw [x_K64 H]) (by rw [x_R64_6 H]; decide)]
  simp only [x_R64_6 H]
theorem x127_61 {d : Nat} {x1 : Int32} {s0 : Nat} {M : hp} {Q : Option Value → hp → Prop} (H : XS M) (h1 : (hK M s0).1 = 3) : Wp none d 127 61 [(0, .ref 64), (1, .int x1)] [.ref s0] M Q = Wp none d 44 0 [(0, .ref s0)] [] M (fun r M1 => Wp none d 127 64 [(0, .ref 64), (1, .int x1)] (r.toList ++ []) M1 Q) := by
  rw [k127_61 (x0 := 64) h1]
theorem x127_66 {d : Nat} {x1 : Int32} {s0 : Int32} {M : hp} {Q : Option Value → hp → Prop} (H : XS M) : Wp none d 127 66 [(0, .ref 64), (1, .int x1)] [.int s0, .ref 64] M Q = Wp none d 131 0 [(0, .ref 64), (1, .int s0)] [] M (fun r M1 => Wp none d 127 69 [(0, .ref 64), (1, .int x1)] (r.toList ++ []) M1 Q) := by
  rw [k127_66 (x0 := 64) (s1 := 64) (by rw [x_K64 H])]
theorem x128_80 {d : Nat} {x1 : Int32} {M : hp} {Q : Option Value → hp → Prop} (H : XS M) : Wp none d 128 80 [(0, .ref 64), (1, .int x1)] [] M Q = Q (some (.int (hI M 65 8))) M := by
  rw [k128_80 (x0 := 64) (by rw [x_K64 H]) (by rw [x_R64_0 H]; decide) (by rw [x_R64_0 H, x_K65 H])]
  simp only [x_R64_0 H]
theorem x128_88 {d : Nat} {x1 : Int32} {M : hp} {Q : Option Value → hp → Prop} (H : XS M) : Wp none d 128 88 [(0, .ref 64), (1, .int x1)] [] M Q = Wp none d 128 92 [(0, .ref 64), (1, .int x1)] [.ref 65] M Q := by
  rw [k128_88 (x0 := 64) (by rw [x_K64 H]) (by rw [x_R64_0 H]; decide)]
  simp only [x_R64_0 H]
theorem x128_92 {d : Nat} {x1 : Int32} {s0 : Nat} {M : hp} {Q : Option Value → hp → Prop} (H : XS M) (h1 : (hK M s0).1 = 0) : Wp none d 128 92 [(0, .ref 64), (1, .int x1)] [.ref s0] M Q = Wp none d 14 0 [(0, .ref s0)] [] M (fun r M1 => Wp none d 128 95 [(0, .ref 64), (1, .int x1)] (r.toList ++ []) M1 Q) := by
  rw [k128_92 (x0 := 64) h1]
theorem x128_96 {d : Nat} {x1 : Int32} {M : hp} {Q : Option Value → hp → Prop} (H : XS M) : Wp none d 128 96 [(0, .ref 64), (1, .int x1)] [] M Q = Wp none d 128 100 [(0, .ref 64), (1, .int x1)] [.ref 65] M Q := by
  rw [k128_96 (x0 := 64) (by rw [x_K64 H]) (by rw [x_R64_0 H]; decide)]
  simp only [x_R64_0 H]
theorem x128_100 {d : Nat} {x1 : Int32} {s0 : Nat} {M : hp} {Q : Option Value → hp → Prop} (H : XS M) (h1 : (hK M s0).1 = 0) : Wp none d 128 100 [(0, .ref 64), (1, .int x1)] [.ref s0] M Q = Wp none d 21 0 [(0, .ref s0)] [] M (fun r M1 => Wp none d 128 103 [(0, .ref 64), (1, .int x1)] (r.toList ++ []) M1 Q) := by
  rw [k128_100 (x0 := 64) h1]
theorem x128_104 {d : Nat} {x1 : Int32} {M : hp} {Q : Option Value → hp → Prop} (H : XS M) : Wp none d 128 104 [(0, .ref 64), (1, .int x1)] [] M Q = Q (some (.int (hI M 65 11))) M := by
  rw [k128_104 (x0 := 64) (by rw [x_K64 H]) (by rw [x_R64_0 H]; decide) (by rw [x_R64_0 H, x_K65 H])]
  simp only [x_R64_0 H]
theorem x128_112 {d : Nat} {x1 : Int32} {M : hp} {Q : Option Value → hp → Prop} (H : XS M) : Wp none d 128 112 [(0, .ref 64), (1, .int x1)] [] M Q = Q (some (.int (hI M 65 9))) M := by
  rw [k128_112 (x0 := 64) (by rw [x_K64 H]) (by rw [x_R64_0 H]; decide) (by rw [x_R64_0 H, x_K65 H])]
  simp only [x_R64_0 H]
theorem x128_120 {d : Nat} {x1 : Int32} {M : hp} {Q : Option Value → hp → Prop} (H : XS M) : Wp none d 128 120 [(0, .ref 64), (1, .int x1)] [] M Q = Q (some (.int (hI M 103 2))) M := by
  rw [k128_120 (x0 := 64) (by rw [x_K64 H]) (by rw [x_R64_6 H]; decide) (by rw [x_R64_6 H, x_K103 H])]
  simp only [x_R64_6 H]
theorem x128_128 {d : Nat} {x1 : Int32} {M : hp} {Q : Option Value → hp → Prop} (H : XS M) : Wp none d 128 128 [(0, .ref 64), (1, .int x1)] [] M Q = Q (some (.int (hI M 107 1))) M := by
  rw [k128_128 (x0 := 64) (by rw [x_K64 H]) (by rw [x_R64_8 H]; decide) (by rw [x_R64_8 H, x_K107 H])]
  simp only [x_R64_8 H]
theorem x128_136 {d : Nat} {x1 : Int32} {M : hp} {Q : Option Value → hp → Prop} (H : XS M) : Wp none d 128 136 [(0, .ref 64), (1, .int x1)] [] M Q = Q (some (.int (hI M 65 10))) M := by
  rw [k128_136 (x0 := 64) (by rw [x_K64 H]) (by rw [x_R64_0 H]; decide) (by rw [x_R64_0 H, x_K65 H])]
  simp only [x_R64_0 H]
theorem x128_144 {d : Nat} {x1 : Int32} {M : hp} {Q : Option Value → hp → Prop} (H : XS M) : Wp none d 128 144 [(0, .ref 64), (1, .int x1)] [] M Q = Wp none d 128 152 [(0, .ref 64), (1, .int x1)] [.int (x1 - 13), .ref 65] M Q := by
  rw [k128_144 (x0 := 64) (by rw [x_K64 H]) (by rw [x_R64_0 H]; decide)]
  simp only [x_R64_0 H]
theorem x128_152 {d : Nat} {x1 : Int32} {s0 : Int32} {s1 : Nat} {M : hp} {Q : Option Value → hp → Prop} (H : XS M) (h1 : (hK M s1).1 = 0) : Wp none d 128 152 [(0, .ref 64), (1, .int x1)] [.int s0, .ref s1] M Q = Wp none d 3 0 [(0, .ref s1), (1, .int s0)] [] M (fun r M1 => Wp none d 128 155 [(0, .ref 64), (1, .int x1)] (r.toList ++ []) M1 Q) := by
  rw [k128_152 (x0 := 64) h1]
theorem x128_168 {d : Nat} {x1 : Int32} {M : hp} {Q : Option Value → hp → Prop} (H : XS M) : Wp none d 128 168 [(0, .ref 64), (1, .int x1)] [] M Q = Wp none d 128 176 [(0, .ref 64), (1, .int x1)] [.int (x1 - 7), .ref 125] M Q := by
  rw [k128_168 (x0 := 64) (by rw [x_K64 H]) (by rw [x_R64_14 H]; decide)]
  simp only [x_R64_14 H]
theorem x129_0 {d : Nat} {M : hp} {Q : Option Value → hp → Prop} (H : XS M) : Wp none d 129 0 [(0, .ref 64)] [] M Q = Q (some (.int (hI M 64 19))) M := by
  rw [k129_0 (x0 := 64) (by rw [x_K64 H])]
theorem x130_0 {d : Nat} {x1 : Int32} {M : hp} {Q : Option Value → hp → Prop} (H : XS M) : Wp none d 130 0 [(0, .ref 64), (1, .int x1)] [] M Q = Wp none d 130 5 [(0, .ref 64), (1, .int x1)] [] (sI M 64 19 x1) Q := by
  rw [k130_0 (x0 := 64) (by rw [x_K64 H])]
theorem x130_9 {d : Nat} {x1 : Int32} {s0 : Int32} {M : hp} {Q : Option Value → hp → Prop} (H : XS M) : Wp none d 130 9 [(0, .ref 64), (1, .int x1)] [.int s0] M Q = Wp none d 130 20 [(0, .ref 64), (1, .int x1), (2, .int s0)] [.int s0, .ref 125, .int s0, .ref 125] M Q := by
  rw [k130_9 (x0 := 64) (by rw [x_K64 H]) (by rw [x_R64_14 H]; decide)]
  simp only [x_R64_14 H]
theorem x131_0 {d : Nat} {x1 : Int32} {M : hp} {Q : Option Value → hp → Prop} (H : XS M) : Wp none d 131 0 [(0, .ref 64), (1, .int x1)] [] M Q = Wp none d 131 5 [(0, .ref 64), (1, .int x1)] [] (sI M 64 19 0) Q := by
  rw [k131_0 (x0 := 64) (by rw [x_K64 H])]
theorem x132_6 {d : Nat} {x1 : Int32} {s0 : Int32} {M : hp} {Q : Option Value → hp → Prop} (H : XS M) : Wp none d 132 6 [(0, .ref 64), (1, .int x1)] [.int s0, .ref 64] M Q = Wp none d 130 0 [(0, .ref 64), (1, .int s0)] [] M (fun r M1 => Wp none d 132 9 [(0, .ref 64), (1, .int x1)] (r.toList ++ []) M1 Q) := by
  rw [k132_6 (x0 := 64) (s1 := 64) (by rw [x_K64 H])]
theorem x132_14 {d : Nat} {x1 : Int32} {s0 : Int32} {M : hp} {Q : Option Value → hp → Prop} (H : XS M) : Wp none d 132 14 [(0, .ref 64), (1, .int x1)] [.int s0, .ref 64] M Q = Wp none d 131 0 [(0, .ref 64), (1, .int s0)] [] M (fun r M1 => Wp none d 132 17 [(0, .ref 64), (1, .int x1)] (r.toList ++ []) M1 Q) := by
  rw [k132_14 (x0 := 64) (s1 := 64) (by rw [x_K64 H])]
theorem x137_0 {d : Nat} {x1 : Int32} {M : hp} {Q : Option Value → hp → Prop} (H : XS M) : Wp none d 137 0 [(0, .ref 64), (1, .int x1)] [] M Q = Wp none d 137 8 [(0, .ref 64), (1, .int x1)] [.int x1, .ref 108] M Q := by
  rw [k137_0 (x0 := 64) (by rw [x_K64 H]) (by rw [x_R64_8 H]; decide) (by rw [x_R64_8 H, x_K107 H]) (by rw [x_R64_8 H, x_R107_0 H]; decide)]
  simp only [x_R64_8 H, x_R107_0 H]
theorem x137_11 {d : Nat} {x1 : Int32} {s0 : Int32} {M : hp} {Q : Option Value → hp → Prop} (H : XS M) : Wp none d 137 11 [(0, .ref 64), (1, .int x1)] [.int s0] M Q = Wp none d 137 22 [(0, .ref 64), (1, .int x1), (2, .int s0)] [.int (x1 + 1), .ref 108] M Q := by
  rw [k137_11 (x0 := 64) (by rw [x_K64 H]) (by rw [x_R64_8 H]; decide) (by rw [x_R64_8 H, x_K107 H]) (by rw [x_R64_8 H, x_R107_0 H]; decide)]
  simp only [x_R64_8 H, x_R107_0 H]
theorem x137_25 {d : Nat} {x1 : Int32} {x2 : Int32} {s0 : Int32} {M : hp} {Q : Option Value → hp → Prop} (H : XS M) : Wp none d 137 25 [(0, .ref 64), (1, .int x1), (2, .int x2)] [.int s0] M Q = Wp none d 137 36 [(0, .ref 64), (1, .int x1), (2, .int x2), (3, .int s0)] [.int (hI M 107 1), .int (x1 + 2)] M Q := by
  rw [k137_25 (x0 := 64) (by rw [x_K64 H]) (by rw [x_R64_8 H]; decide) (by rw [x_R64_8 H, x_K107 H])]
  simp only [x_R64_8 H]
theorem x137_47 {d : Nat} {x1 : Int32} {x2 : Int32} {x3 : Int32} {M : hp} {Q : Option Value → hp → Prop} (H : XS M) : Wp none d 137 47 [(0, .ref 64), (1, .int x1), (2, .int x2), (3, .int x3)] [] M Q = Wp none d 137 56 [(0, .ref 64), (1, .int x1), (2, .int x2), (3, .int x3)] [.int 7, .int (hI M 65 8)] M Q := by
  rw [k137_47 (x0 := 64) (by rw [x_K64 H]) (by rw [x_R64_0 H]; decide) (by rw [x_R64_0 H, x_K65 H])]
  simp only [x_R64_0 H]
theorem x137_61 {d : Nat} {x1 : Int32} {x2 : Int32} {x3 : Int32} {M : hp} {Q : Option Value → hp → Prop} (H : XS M) : Wp none d 137 61 [(0, .ref 64), (1, .int x1), (2, .int x2), (3, .int x3)] [] M Q = Wp none d 137 77 [(0, .ref 64), (1, .int x1), (2, .int x2), (3, .int x3)] [.int (x1 + 2), .ref 108, .int x3, .int x2, .ref 65] M Q := by
  rw [k137_61 (x0 := 64) (by rw [x_K64 H]) (by rw [x_R64_0 H]; decide) (by rw [x_R64_8 H]; decide) (by rw [x_R64_8 H, x_K107 H]) (by rw [x_R64_8 H, x_R107_0 H]; decide)]
  simp only [x_R64_8 H, x_R107_0 H, x_R64_0 H]
theorem x137_80 {d : Nat} {x1 : Int32} {x2 : Int32} {x3 : Int32} {s0 : Int32} {s1 : Int32} {s2 : Int32} {s3 : Nat} {M : hp} {Q : Option Value → hp → Prop} (H : XS M) (h1 : (hK M s3).1 = 0) : Wp none d 137 80 [(0, .ref 64), (1, .int x1), (2, .int x2), (3, .int x3)] [.int s0, .int s1, .int s2, .ref s3] M Q = Wp none d 5 0 [(0, .ref s3), (1, .int s2), (2, .int s1), (3, .int s0)] [] M (fun r M1 => Wp none d 137 83 [(0, .ref 64), (1, .int x1), (2, .int x2), (3, .int x3)] (r.toList ++ []) M1 Q) := by
  rw [k137_80 (x0 := 64) h1]
theorem x138_0 {d : Nat} {M : hp} {Q : Option Value → hp → Prop} (H : XS M) : Wp none d 138 0 [(0, .ref 64)] [] M Q = Wp none d 138 11 [(0, .ref 64)] [] (sI M 64 17 (hI M 109 2)) Q := by
  rw [k138_0 (x0 := 64) (by rw [x_K64 H]) (by rw [x_R64_9 H]; decide) (by rw [x_R64_9 H, x_K109 H])]
  simp only [x_R64_9 H]
theorem x138_11 {d : Nat} {M : hp} {Q : Option Value → hp → Prop} (H : XS M) : Wp none d 138 11 [(0, .ref 64)] [] M Q = Q none (sI M 107 1 0) := by
  rw [k138_11 (x0 := 64) (by rw [x_K64 H]) (by rw [x_R64_8 H]; decide) (by rw [x_R64_8 H, x_K107 H])]
  simp only [x_R64_8 H]
theorem x139_7 {d : Nat} {x1 : Nat} {x2 : Int32} {x3 : Int32} {x4 : Int32} {M : hp} {Q : Option Value → hp → Prop} (H : XS M) (h1 : (hK M x1).1 = 7) : Wp none d 139 7 [(0, .ref 64), (1, .ref x1), (2, .int x2), (3, .int x3), (4, .int x4)] [] M Q = Wp none d 139 13 [(0, .ref 64), (1, .ref x1), (2, .int x2), (3, .int x3), (4, .int x4)] [.int (hI M x1 3), .int x4] M Q := by
  rw [k139_7 (x0 := 64) h1]
theorem x139_20 {d : Nat} {x1 : Nat} {x2 : Int32} {x3 : Int32} {x4 : Int32} {s0 : Int32} {s1 : Int32} {s2 : Nat} {M : hp} {Q : Option Value → hp → Prop} (H : XS M) (h1 : (hK M s2).1 = 7) : Wp none d 139 20 [(0, .ref 64), (1, .ref x1), (2, .int x2), (3, .int x3), (4, .int x4)] [.int s0, .int s1, .ref s2] M Q = Wp none d 85 0 [(0, .ref s2), (1, .int s1), (2, .int s0)] [] M (fun r M1 => Wp none d 139 23 [(0, .ref 64), (1, .ref x1), (2, .int x2), (3, .int x3), (4, .int x4)] (r.toList ++ []) M1 Q) := by
  rw [k139_20 (x0 := 64) h1]
theorem x139_29 {d : Nat} {x1 : Nat} {x2 : Int32} {x3 : Int32} {x4 : Int32} {x5 : Int32} {s0 : Int32} {s1 : Int32} {s2 : Nat} {M : hp} {Q : Option Value → hp → Prop} (H : XS M) (h1 : (hK M s2).1 = 7) : Wp none d 139 29 [(0, .ref 64), (1, .ref x1), (2, .int x2), (3, .int x3), (4, .int x4), (5, .int x5)] [.int s0, .int s1, .ref s2] M Q = Wp none d 85 0 [(0, .ref s2), (1, .int s1), (2, .int s0)] [] M (fun r M1 => Wp none d 139 32 [(0, .ref 64), (1, .ref x1), (2, .int x2), (3, .int x3), (4, .int x4), (5, .int x5)] (r.toList ++ []) M1 Q) := by
  rw [k139_29 (x0 := 64) h1]
theorem x139_44 {d : Nat} {x1 : Nat} {x2 : Int32} {x3 : Int32} {x4 : Int32} {x5 : Int32} {x6 : Int32} {x7 : Int32} {M : hp} {Q : Option Value → hp → Prop} (H : XS M) : Wp none d 139 44 [(0, .ref 64), (1, .ref x1), (2, .int x2), (3, .int x3), (4, .int x4), (5, .int x5), (6, .int x6), (7, .int x7)] [] M Q = Wp none d 139 54 [(0, .ref 64), (1, .ref x1), (2, .int x2), (3, .int x3), (4, .int x4), (5, .int x5), (6, .int x6), (7, .int x7)] [.int x3, .int x2, .ref 65, .ref 113] M Q := by
  rw [k139_44 (x0 := 64) (by rw [x_K64 H]) (by rw [x_R64_10 H]; decide) (by rw [x_R64_0 H]; decide)]
  simp only [x_R64_0 H, x_R64_10 H]
theorem x139_54 {d : Nat} {x1 : Nat} {x2 : Int32} {x3 : Int32} {x4 : Int32} {x5 : Int32} {x6 : Int32} {x7 : Int32} {s0 : Int32} {s1 : Int32} {s2 : Nat} {s3 : Nat} {M : hp} {Q : Option Value → hp → Prop} (H : XS M) (h1 : (hK M s3).1 = 1) : Wp none d 139 54 [(0, .ref 64), (1, .ref x1), (2, .int x2), (3, .int x3), (4, .int x4), (5, .int x5), (6, .int x6), (7, .int x7)] [.int s0, .int s1, .ref s2, .ref s3] M Q = Wp none d 30 0 [(0, .ref s3), (1, .ref s2), (2, .int s1), (3, .int s0)] [] M (fun r M1 => Wp none d 139 57 [(0, .ref 64), (1, .ref x1), (2, .int x2), (3, .int x3), (4, .int x4), (5, .int x5), (6, .int x6), (7, .int x7)] (r.toList ++ []) M1 Q) := by
  rw [k139_54 (x0 := 64) h1]
theorem x139_57 {d : Nat} {x1 : Nat} {x2 : Int32} {x3 : Int32} {x4 : Int32} {x5 : Int32} {x6 : Int32} {x7 : Int32} {M : hp} {Q : Option Value → hp → Prop} (H : XS M) : Wp none d 139 57 [(0, .ref 64), (1, .ref x1), (2, .int x2), (3, .int x3), (4, .int x4), (5, .int x5), (6, .int x6), (7, .int x7)] [] M Q = Wp none d 139 66 [(0, .ref 64), (1, .ref x1), (2, .int x2), (3, .int x3), (4, .int x4), (5, .int x5), (6, .int x6), (7, .int x7)] [.int 6, .int x4, .ref x1, .ref 113] M Q := by
  rw [k139_57 (x0 := 64) (by rw [x_K64 H]) (by rw [x_R64_10 H]; decide)]
  simp only [x_R64_10 H]
theorem x139_66 {d : Nat} {x1 : Nat} {x2 : Int32} {x3 : Int32} {x4 : Int32} {x5 : Int32} {x6 : Int32} {x7 : Int32} {s0 : Int32} {s1 : Int32} {s2 : Nat} {s3 : Nat} {M : hp} {Q : Option Value → hp → Prop} (H : XS M) (h1 : (hK M s3).1 = 1) : Wp none d 139 66 [(0, .ref 64), (1, .ref x1), (2, .int x2), (3, .int x3), (4, .int x4), (5, .int x5), (6, .int x6), (7, .int x7)] [.int s0, .int s1, .ref s2, .ref s3] M Q = Wp none d 31 0 [(0, .ref s3), (1, .ref s2), (2, .int s1), (3, .int s0)] [] M (fun r M1 => Wp none d 139 69 [(0, .ref 64), (1, .ref x1), (2, .int x2), (3, .int x3), (4, .int x4), (5, .int x5), (6, .int x6), (7, .int x7)] (r.toList ++ []) M1 Q) := by
  rw [k139_66 (x0 := 64) h1]
theorem x139_77 {d : Nat} {x1 : Nat} {x2 : Int32} {x3 : Int32} {x4 : Int32} {x5 : Int32} {x6 : Int32} {x7 : Int32} {M : hp} {Q : Option Value → hp → Prop} (H : XS M) : Wp none d 139 77 [(0, .ref 64), (1, .ref x1), (2, .int x2), (3, .int x3), (4, .int x4), (5, .int x5), (6, .int x6), (7, .int x7)] [] M Q = Wp none d 139 88 [(0, .ref 64), (1, .ref x1), (2, .int x2), (3, .int x3), (4, .int x4), (5, .int x5), (6, .int x6), (7, .int x7), (8, .int (-3))] [.int x4, .ref x1, .ref 113] M Q := by
  rw [k139_77 (x0 := 64) (by rw [x_K64 H]) (by rw [x_R64_10 H]; decide)]
  simp only [x_R64_10 H]
theorem x139_88 {d : Nat} {x1 : Nat} {x2 : Int32} {x3 : Int32} {x4 : Int32} {x5 : Int32} {x6 : Int32} {x7 : Int32} {x8 : Int32} {s0 : Int32} {s1 : Nat} {s2 : Nat} {M : hp} {Q : Option Value → hp → Prop} (H : XS M) (h1 : (hK M s2).1 = 1) : Wp none d 139 88 [(0, .ref 64), (1, .ref x1), (2, .int x2), (3, .int x3), (4, .int x4), (5, .int x5), (6, .int x6), (7, .int x7), (8, .int x8)] [.int s0, .ref s1, .ref s2] M Q = Wp none d 32 0 [(0, .ref s2), (1, .ref s1), (2, .int s0)] [] M (fun r M1 => Wp none d 139 91 [(0, .ref 64), (1, .ref x1), (2, .int x2), (3, .int x3), (4, .int x4), (5, .int x5), (6, .int x6), (7, .int x7), (8, .int x8)] (r.toList ++ []) M1 Q) := by
  rw [k139_88 (x0 := 64) h1]
theorem x139_100 {d : Nat} {x1 : Nat} {x2 : Int32} {x3 : Int32} {x4 : Int32} {x5 : Int32} {x6 : Int32} {x7 : Int32} {x8 : Int32} {M : hp} {Q : Option Value → hp → Prop} (H : XS M) : Wp none d 139 100 [(0, .ref 64), (1, .ref x1), (2, .int x2), (3, .int x3), (4, .int x4), (5, .int x5), (6, .int x6), (7, .int x7), (8, .int x8)] [] M Q = Wp none d 139 117 [(0, .ref 64), (1, .ref x1), (2, .int x2), (3, .int x3), (4, .int x4), (5, .int x5), (6, .int x6), (7, .int x7), (8, .int x8)] [.int (hI M 113 4)] M Q := by
  rw [k139_100 (x0 := 64) (by rw [x_K64 H]) (by rw [x_R64_10 H]; decide) (by rw [x_R64_10 H, x_K113 H])]
  simp only [x_R64_10 H]
theorem x139_110 {d : Nat} {x1 : Nat} {x2 : Int32} {x3 : Int32} {x4 : Int32} {x5 : Int32} {x6 : Int32} {x7 : Int32} {x8 : Int32} {M : hp} {Q : Option Value → hp → Prop} (H : XS M) : Wp none d 139 110 [(0, .ref 64), (1, .ref x1), (2, .int x2), (3, .int x3), (4, .int x4), (5, .int x5), (6, .int x6), (7, .int x7), (8, .int x8)] [] M Q = Wp none d 139 117 [(0, .ref 64), (1, .ref x1), (2, .int x2), (3, .int x3), (4, .int x4), (5, .int x5), (6, .int x6), (7, .int x7), (8, .int x8)] [.int (hI M 113 3)] M Q := by
  rw [k139_110 (x0 := 64) (by rw [x_K64 H]) (by rw [x_R64_10 H]; decide) (by rw [x_R64_10 H, x_K113 H])]
  simp only [x_R64_10 H]
theorem x139_125 {d : Nat} {x1 : Nat} {x2 : Int32} {x3 : Int32} {x4 : Int32} {x5 : Int32} {x6 : Int32} {x7 : Int32} {x8 : Int32} {x9 : Int32} {M : hp} {Q : Option Value → hp → Prop} (H : XS M) : Wp none d 139 125 [(0, .ref 64), (1, .ref x1), (2, .int x2), (3, .int x3), (4, .int x4), (5, .int x5), (6, .int x6), (7, .int x7), (8, .int x8), (9, .int x9)] [] M Q = Wp none d 139 142 [(0, .ref 64), (1, .ref x1), (2, .int x2), (3, .int x3), (4, .int x4), (5, .int x5), (6, .int x6), (7, .int x7), (8, .int x8), (9, .int x9)] [.int (hI M 113 3)] M Q := by
  rw [k139_125 (x0 := 64) (by rw [x_K64 H]) (by rw [x_R64_10 H]; decide) (by rw [x_R64_10 H, x_K113 H])]
  simp only [x_R64_10 H]
theorem x139_135 {d : Nat} {x1 : Nat} {x2 : Int32} {x3 : Int32} {x4 : Int32} {x5 : Int32} {x6 : Int32} {x7 : Int32} {x8 : Int32} {x9 : Int32} {M : hp} {Q : Option Value → hp → Prop} (H : XS M) : Wp none d 139 135 [(0, .ref 64), (1, .ref x1), (2, .int x2), (3, .int x3), (4, .int x4), (5, .int x5), (6, .int x6), (7, .int x7), (8, .int x8), (9, .int x9)] [] M Q = Wp none d 139 142 [(0, .ref 64), (1, .ref x1), (2, .int x2), (3, .int x3), (4, .int x4), (5, .int x5), (6, .int x6), (7, .int x7), (8, .int x8), (9, .int x9)] [.int (hI M 113 4)] M Q := by
  rw [k139_135 (x0 := 64) (by rw [x_K64 H]) (by rw [x_R64_10 H]; decide) (by rw [x_R64_10 H, x_K113 H])]
  simp only [x_R64_10 H]
theorem x139_151 {d : Nat} {x1 : Nat} {x2 : Int32} {x3 : Int32} {x4 : Int32} {x5 : Int32} {x6 : Int32} {x7 : Int32} {x8 : Int32} {x9 : Int32} {x10 : Int32} {s0 : Int32} {s1 : Int32} {s2 : Int32} {M : hp} {Q : Option Value → hp → Prop} (H : XS M) : Wp none d 139 151 [(0, .ref 64), (1, .ref x1), (2, .int x2), (3, .int x3), (4, .int x4), (5, .int x5), (6, .int x6), (7, .int x7), (8, .int x8), (9, .int x9), (10, .int x10)] [.int s0, .int s1, .int s2, .ref 64] M Q = Wp none d 140 0 [(0, .ref 64), (1, .int s2), (2, .int s1), (3, .int s0)] [] M (fun r M1 => Wp none d 139 154 [(0, .ref 64), (1, .ref x1), (2, .int x2), (3, .int x3), (4, .int x4), (5, .int x5), (6, .int x6), (7, .int x7), (8, .int x8), (9, .int x9), (10, .int x10)] (r.toList ++ []) M1 Q) := by
  rw [k139_151 (x0 := 64) (s3 := 64) (by rw [x_K64 H])]
theorem x139_161 {d : Nat} {x1 : Nat} {x2 : Int32} {x3 : Int32} {x4 : Int32} {x5 : Int32} {x6 : Int32} {x7 : Int32} {x8 : Int32} {M : hp} {Q : Option Value → hp → Prop} (H : XS M) : Wp none d 139 161 [(0, .ref 64), (1, .ref x1), (2, .int x2), (3, .int x3), (4, .int x4), (5, .int x5), (6, .int x6), (7, .int x7), (8, .int x8)] [] M Q = Wp none d 139 167 [(0, .ref 64), (1, .ref x1), (2, .int x2), (3, .int x3), (4, .int x4), (5, .int x5), (6, .int x6), (7, .int x7), (8, .int x8)] [] (sI M 64 18 x4) Q := by
  rw [k139_161 (x0 := 64) (by rw [x_K64 H])]
theorem x140_4 {d : Nat} {x1 : Int32} {x2 : Int32} {x3 : Int32} {s0 : Int32} {s1 : Int32} {s2 : Int32} {M : hp} {Q : Option Value → hp → Prop} (H : XS M) : Wp none d 140 4 [(0, .ref 64), (1, .int x1), (2, .int x2), (3, .int x3)] [.int s0, .int s1, .int s2, .ref 64] M Q = Wp none d 141 0 [(0, .ref 64), (1, .int s2), (2, .int s1), (3, .int s0)] [] M (fun r M1 => Wp none d 140 7 [(0, .ref 64), (1, .int x1), (2, .int x2), (3, .int x3)] (r.toList ++ []) M1 Q) := by
  rw [k140_4 (x0 := 64) (s3 := 64) (by rw [x_K64 H])]
theorem x140_17 {d : Nat} {x1 : Int32} {x2 : Int32} {x3 : Int32} {x4 : Int32} {M : hp} {Q : Option Value → hp → Prop} (H : XS M) : Wp none d 140 17 [(0, .ref 64), (1, .int x1), (2, .int x2), (3, .int x3), (4, .int x4)] [] M Q = Wp none d 140 26 [(0, .ref 64), (1, .int x1), (2, .int x2), (3, .int x3), (4, .int x4)] [.ref 65, .int x1, .ref 103] M Q := by
  rw [k140_17 (x0 := 64) (by rw [x_K64 H]) (by rw [x_R64_6 H]; decide) (by rw [x_R64_0 H]; decide)]
  simp only [x_R64_0 H, x_R64_6 H]
theorem x140_26 {d : Nat} {x1 : Int32} {x2 : Int32} {x3 : Int32} {x4 : Int32} {s0 : Nat} {s1 : Int32} {s2 : Nat} {M : hp} {Q : Option Value → hp → Prop} (H : XS M) (h1 : (hK M s2).1 = 3) : Wp none d 140 26 [(0, .ref 64), (1, .int x1), (2, .int x2), (3, .int x3), (4, .int x4)] [.ref s0, .int s1, .ref s2] M Q = Wp none d 46 0 [(0, .ref s2), (1, .int s1), (2, .ref s0)] [] M (fun r M1 => Wp none d 140 29 [(0, .ref 64), (1, .int x1), (2, .int x2), (3, .int x3), (4, .int x4)] (r.toList ++ []) M1 Q) := by
  rw [k140_26 (x0 := 64) h1]
theorem x140_56 {d : Nat} {x1 : Int32} {x2 : Int32} {x3 : Int32} {x4 : Int32} {M : hp} {Q : Option Value → hp → Prop} (H : XS M) : Wp none d 140 56 [(0, .ref 64), (1, .int x1), (2, .int x2), (3, .int x3), (4, .int x4)] [] M Q = Wp none d 140 65 [(0, .ref 64), (1, .int x1), (2, .int x2), (3, .int x3), (4, .int x4)] [.int x3, .int x2, .ref 68] M Q := by
  rw [k140_56 (x0 := 64) (by rw [x_K64 H]) (by rw [x_R64_0 H]; decide) (by rw [x_R64_0 H, x_K65 H]) (by rw [x_R64_0 H, x_R65_2 H]; decide)]
  simp only [x_R64_0 H, x_R65_2 H]
theorem x140_68 {d : Nat} {x1 : Int32} {x2 : Int32} {x3 : Int32} {x4 : Int32} {M : hp} {Q : Option Value → hp → Prop} (H : XS M) : Wp none d 140 68 [(0, .ref 64), (1, .int x1), (2, .int x2), (3, .int x3), (4, .int x4)] [] M Q = Wp none d 140 73 [(0, .ref 64), (1, .int x1), (2, .int x2), (3, .int x3), (4, .int x4)] [.int x2, .ref 65] M Q := by
  rw [k140_68 (x0 := 64) (by rw [x_K64 H]) (by rw [x_R64_0 H]; decide)]
  simp only [x_R64_0 H]
theorem x140_73 {d : Nat} {x1 : Int32} {x2 : Int32} {x3 : Int32} {x4 : Int32} {s0 : Int32} {s1 : Nat} {M : hp} {Q : Option Value → hp → Prop} (H : XS M) (h1 : (hK M s1).1 = 0) : Wp none d 140 73 [(0, .ref 64), (1, .int x1), (2, .int x2), (3, .int x3), (4, .int x4)] [.int s0, .ref s1] M Q = Wp none d 17 0 [(0, .ref s1), (1, .int s0)] [] M (fun r M1 => Wp none d 140 76 [(0, .ref 64), (1, .int x1), (2, .int x2), (3, .int x3), (4, .int x4)] (r.toList ++ []) M1 Q) := by
  rw [k140_73 (x0 := 64) h1]
theorem x140_77 {d : Nat} {x1 : Int32} {x2 : Int32} {x3 : Int32} {x4 : Int32} {M : hp} {Q : Option Value → hp → Prop} (H : XS M) : Wp none d 140 77 [(0, .ref 64), (1, .int x1), (2, .int x2), (3, .int x3), (4, .int x4)] [] M Q = Wp none d 140 85 [(0, .ref 64), (1, .int x1), (2, .int x2), (3, .int x3), (4, .int x4)] [.int x2, .ref 68] M Q := by
  rw [k140_77 (x0 := 64) (by rw [x_K64 H]) (by rw [x_R64_0 H]; decide) (by rw [x_R64_0 H, x_K65 H]) (by rw [x_R64_0 H, x_R65_2 H]; decide)]
  simp only [x_R64_0 H, x_R65_2 H]
theorem x140_88 {d : Nat} {x1 : Int32} {x2 : Int32} {x3 : Int32} {x4 : Int32} {s0 : Int32} {M : hp} {Q : Option Value → hp → Prop} (H : XS M) : Wp none d 140 88 [(0, .ref 64), (1, .int x1), (2, .int x2), (3, .int x3), (4, .int x4)] [.int s0] M Q = Wp none d 140 99 [(0, .ref 64), (1, .int x1), (2, .int x2), (3, .int x3), (4, .int x4), (5, .int s0)] [.int (-1), .int x2, .ref 68] M Q := by
  rw [k140_88 (x0 := 64) (by rw [x_K64 H]) (by rw [x_R64_0 H]; decide) (by rw [x_R64_0 H, x_K65 H]) (by rw [x_R64_0 H, x_R65_2 H]; decide)]
  simp only [x_R64_0 H, x_R65_2 H]
theorem x140_105 {d : Nat} {x1 : Int32} {x2 : Int32} {x3 : Int32} {x4 : Int32} {M : hp} {Q : Option Value → hp → Prop} (H : XS M) : Wp none d 140 105 [(0, .ref 64), (1, .int x1), (2, .int x2), (3, .int x3), (4, .int x4)] [] M Q = Wp none d 140 113 [(0, .ref 64), (1, .int x1), (2, .int x2), (3, .int x3), (4, .int x4)] [.int ((1 : Int32) <<< (x3 &&& 31)), .int x2, .ref 65] M Q := by
  rw [k140_105 (x0 := 64) (by rw [x_K64 H]) (by rw [x_R64_0 H]; decide)]
  simp only [x_R64_0 H]
theorem x140_113 {d : Nat} {x1 : Int32} {x2 : Int32} {x3 : Int32} {x4 : Int32} {s0 : Int32} {s1 : Int32} {s2 : Nat} {M : hp} {Q : Option Value → hp → Prop} (H : XS M) (h1 : (hK M s2).1 = 0) : Wp none d 140 113 [(0, .ref 64), (1, .int x1), (2, .int x2), (3, .int x3), (4, .int x4)] [.int s0, .int s1, .ref s2] M Q = Wp none d 19 0 [(0, .ref s2), (1, .int s1), (2, .int s0)] [] M (fun r M1 => Wp none d 140 116 [(0, .ref 64), (1, .int x1), (2, .int x2), (3, .int x3), (4, .int x4)] (r.toList ++ []) M1 Q) := by
  rw [k140_113 (x0 := 64) h1]
theorem x140_116 {d : Nat} {x1 : Int32} {x2 : Int32} {x3 : Int32} {x4 : Int32} {M : hp} {Q : Option Value → hp → Prop} (H : XS M) : Wp none d 140 116 [(0, .ref 64), (1, .int x1), (2, .int x2), (3, .int x3), (4, .int x4)] [] M Q = Wp none d 140 124 [(0, .ref 64), (1, .int x1), (2, .int x2), (3, .int x3), (4, .int x4)] [.int x2, .ref 69] M Q := by
  rw [k140_116 (x0 := 64) (by rw [x_K64 H]) (by rw [x_R64_0 H]; decide) (by rw [x_R64_0 H, x_K65 H]) (by rw [x_R64_0 H, x_R65_3 H]; decide)]
  simp only [x_R64_0 H, x_R65_3 H]
theorem x140_131 {d : Nat} {x1 : Int32} {x2 : Int32} {x3 : Int32} {x4 : Int32} {M : hp} {Q : Option Value → hp → Prop} (H : XS M) : Wp none d 140 131 [(0, .ref 64), (1, .int x1), (2, .int x2), (3, .int x3), (4, .int x4)] [] M Q = Wp none d 140 139 [(0, .ref 64), (1, .int x1), (2, .int x2), (3, .int x3), (4, .int x4)] [.ref 65, .ref 116] M Q := by
  rw [k140_131 (x0 := 64) (by rw [x_K64 H]) (by rw [x_R64_11 H]; decide) (by rw [x_R64_0 H]; decide)]
  simp only [x_R64_0 H, x_R64_11 H]
theorem x140_139 {d : Nat} {x1 : Int32} {x2 : Int32} {x3 : Int32} {x4 : Int32} {s0 : Nat} {s1 : Nat} {M : hp} {Q : Option Value → hp → Prop} (H : XS M) (h1 : (hK M s1).1 = 2) : Wp none d 140 139 [(0, .ref 64), (1, .int x1), (2, .int x2), (3, .int x3), (4, .int x4)] [.ref s0, .ref s1] M Q = Wp none d 40 0 [(0, .ref s1), (1, .ref s0)] [] M (fun r M1 => Wp none d 140 142 [(0, .ref 64), (1, .int x1), (2, .int x2), (3, .int x3), (4, .int x4)] (r.toList ++ []) M1 Q) := by
  rw [k140_139 (x0 := 64) h1]
theorem x141_5 {d : Nat} {x1 : Int32} {x2 : Int32} {x3 : Int32} {M : hp} {Q : Option Value → hp → Prop} (H : XS M) : Wp none d 141 5 [(0, .ref 64), (1, .int x1), (2, .int x2), (3, .int x3)] [] M Q = Wp none d 141 15 [(0, .ref 64), (1, .int x1), (2, .int x2), (3, .int x3)] [.int 999, .int (hI M 65 5)] M Q := by
  rw [k141_5 (x0 := 64) (by rw [x_K64 H]) (by rw [x_R64_0 H]; decide) (by rw [x_R64_0 H, x_K65 H])]
  simp only [x_R64_0 H]
theorem x141_53 {d : Nat} {x1 : Int32} {x2 : Int32} {x3 : Int32} {M : hp} {Q : Option Value → hp → Prop} (H : XS M) : Wp none d 141 53 [(0, .ref 64), (1, .int x1), (2, .int x2), (3, .int x3)] [] M Q = Wp none d 141 58 [(0, .ref 64), (1, .int x1), (2, .int x2), (3, .int x3)] [.int x2, .ref 65] M Q := by
  rw [k141_53 (x0 := 64) (by rw [x_K64 H]) (by rw [x_R64_0 H]; decide)]
  simp only [x_R64_0 H]
theorem x141_58 {d : Nat} {x1 : Int32} {x2 : Int32} {x3 : Int32} {s0 : Int32} {s1 : Nat} {M : hp} {Q : Option Value → hp → Prop} (H : XS M) (h1 : (hK M s1).1 = 0) : Wp none d 141 58 [(0, .ref 64), (1, .int x1), (2, .int x2), (3, .int x3)] [.int s0, .ref s1] M Q = Wp none d 7 0 [(0, .ref s1), (1, .int s0)] [] M (fun r M1 => Wp none d 141 61 [(0, .ref 64), (1, .int x1), (2, .int x2), (3, .int x3)] (r.toList ++ []) M1 Q) := by
  rw [k141_58 (x0 := 64) h1]
theorem x141_67 {d : Nat} {x1 : Int32} {x2 : Int32} {x3 : Int32} {M : hp} {Q : Option Value → hp → Prop} (H : XS M) : Wp none d 141 67 [(0, .ref 64), (1, .int x1), (2, .int x2), (3, .int x3)] [] M Q = Wp none d 141 74 [(0, .ref 64), (1, .int x1), (2, .int x2), (3, .int x3)] [.int x3, .int x2, .int x1, .ref 65] M Q := by
  rw [k141_67 (x0 := 64) (by rw [x_K64 H]) (by rw [x_R64_0 H]; decide)]
  simp only [x_R64_0 H]
theorem x141_74 {d : Nat} {x1 : Int32} {x2 : Int32} {x3 : Int32} {s0 : Int32} {s1 : Int32} {s2 : Int32} {s3 : Nat} {M : hp} {Q : Option Value → hp → Prop} (H : XS M) (h1 : (hK M s3).1 = 0) : Wp none d 141 74 [(0, .ref 64), (1, .int x1), (2, .int x2), (3, .int x3)] [.int s0, .int s1, .int s2, .ref s3] M Q = Wp none d 18 0 [(0, .ref s3), (1, .int s2), (2, .int s1), (3, .int s0)] [] M (fun r M1 => Wp none d 141 77 [(0, .ref 64), (1, .int x1), (2, .int x2), (3, .int x3)] (r.toList ++ []) M1 Q) := by
  rw [k141_74 (x0 := 64) h1]
theorem x142_0 {d : Nat} {x1 : Int32} {M : hp} {Q : Option Value → hp → Prop} (H : XS M) : Wp none d 142 0 [(0, .ref 64), (1, .int x1)] [] M Q = Wp none d 142 14 [(0, .ref 64), (1, .int x1), (2, .long ((hI M 65 6).toInt64)), (4, .int (x1 - 1))] [] M Q := by
  rw [k142_0 (x0 := 64) (by rw [x_K64 H]) (by rw [x_R64_0 H]; decide) (by rw [x_R64_0 H, x_K65 H])]
  simp only [x_R64_0 H]
theorem x142_19 {d : Nat} {x1 : Int32} {x2 : Int64} {x4 : Int32} {M : hp} {Q : Option Value → hp → Prop} (H : XS M) : Wp none d 142 19 [(0, .ref 64), (1, .int x1), (2, .long x2), (4, .int x4)] [] M Q = Wp none d 142 25 [(0, .ref 64), (1, .int x1), (2, .long x2), (4, .int x4)] [.int x4, .ref 124] M Q := by
  rw [k142_19 (x0 := 64) (by rw [x_K64 H]) (by rw [x_R64_13 H]; decide)]
  simp only [x_R64_13 H]
theorem x142_28 {d : Nat} {x1 : Int32} {x2 : Int64} {x4 : Int32} {s0 : Int64} {M : hp} {Q : Option Value → hp → Prop} (H : XS M) : Wp none d 142 28 [(0, .ref 64), (1, .int x1), (2, .long x2), (4, .int x4)] [.long s0] M Q = Wp none d 142 56 [(0, .ref 64), (1, .int x1), (2, .long x2), (4, .int x4), (5, .long ((s0 * (10 - x2)) / 10))] [.int (x4 - 1), .ref 124, .long ((s0 * (10 - x2)) / 10), .int x4, .ref 124] M Q := by
  rw [k142_28 (x0 := 64) (by rw [x_K64 H]) (by rw [x_R64_13 H]; decide)]
  simp only [x_R64_13 H]
theorem x143_21 {d : Nat} {x1 : Int32} {x2 : Int32} {x3 : Int32} {x4 : Int32} {s0 : Int32} {M : hp} {Q : Option Value → hp → Prop} (H : XS M) : Wp none d 143 21 [(0, .ref 64), (1, .int x1), (2, .int x2), (3, .int x3), (4, .int x4)] [.int s0] M Q = Wp none d 143 34 [(0, .ref 64), (1, .int x1), (2, .int x2), (3, .int x3), (4, .int x4), (5, .int s0), (6, .int (hI M 83 8))] [.int (hI M 83 8)] M Q := by
  rw [k143_21 (x0 := 64) (by rw [x_K64 H]) (by rw [x_R64_3 H]; decide) (by rw [x_R64_3 H, x_K83 H])]
  simp only [x_R64_3 H]
theorem x143_40 {d : Nat} {x1 : Int32} {x2 : Int32} {x3 : Int32} {x4 : Int32} {x5 : Int32} {x6 : Int32} {M : hp} {Q : Option Value → hp → Prop} (H : XS M) (h1 : ¬ x6 = 0) : Wp none d 143 40 [(0, .ref 64), (1, .int x1), (2, .int x2), (3, .int x3), (4, .int x4), (5, .int x5), (6, .int x6)] [] M Q = Wp none d 143 67 [(0, .ref 64), (1, .int x1), (2, .int x2), (3, .int x3), (4, .int x4), (5, .int x5), (6, .int x6), (7, .int (x2 - x2 / x6 * x6)), (8, .int (x3 - x3 / 10 * 10)), (9, .int (x4 - x4 / 8 * 8)), (10, .int (x5 - x5 / 4 * 4))] [.int (x5 - x5 / 4 * 4)] M Q := by
  rw [k143_40 (x0 := 64) h1]
theorem x143_70 {d : Nat} {x1 : Int32} {x2 : Int32} {x3 : Int32} {x4 : Int32} {x5 : Int32} {x6 : Int32} {x7 : Int32} {x8 : Int32} {x9 : Int32} {x10 : Int32} {M : hp} {Q : Option Value → hp → Prop} (H : XS M) : Wp none d 143 70 [(0, .ref 64), (1, .int x1), (2, .int x2), (3, .int x3), (4, .int x4), (5, .int x5), (6, .int x6), (7, .int x7), (8, .int x8), (9, .int x9), (10, .int x10)] [] M Q = Wp none d 143 79 [(0, .ref 64), (1, .int x1), (2, .int x2), (3, .int x3), (4, .int x4), (5, .int x5), (6, .int x6), (7, .int x7), (8, .int x8), (9, .int x9), (10, .int x10)] [.int x8, .int x7, .int 0, .ref 83] M Q := by
  rw [k143_70 (x0 := 64) (by rw [x_K64 H]) (by rw [x_R64_3 H]; decide)]
  simp only [x_R64_3 H]
theorem x143_79 {d : Nat} {x1 : Int32} {x2 : Int32} {x3 : Int32} {x4 : Int32} {x5 : Int32} {x6 : Int32} {x7 : Int32} {x8 : Int32} {x9 : Int32} {x10 : Int32} {s0 : Int32} {s1 : Int32} {s2 : Int32} {s3 : Nat} {M : hp} {Q : Option Value → hp → Prop} (H : XS M) (h1 : (hK M s3).1 = 0) : Wp none d 143 79 [(0, .ref 64), (1, .int x1), (2, .int x2), (3, .int x3), (4, .int x4), (5, .int x5), (6, .int x6), (7, .int x7), (8, .int x8), (9, .int x9), (10, .int x10)] [.int s0, .int s1, .int s2, .ref s3] M Q = Wp none d 18 0 [(0, .ref s3), (1, .int s2), (2, .int s1), (3, .int s0)] [] M (fun r M1 => Wp none d 143 82 [(0, .ref 64), (1, .int x1), (2, .int x2), (3, .int x3), (4, .int x4), (5, .int x5), (6, .int x6), (7, .int x7), (8, .int x8), (9, .int x9), (10, .int x10)] (r.toList ++ []) M1 Q) := by
  rw [k143_79 (x0 := 64) h1]
theorem x143_85 {d : Nat} {x1 : Int32} {x2 : Int32} {x3 : Int32} {x4 : Int32} {x5 : Int32} {x6 : Int32} {x7 : Int32} {x8 : Int32} {x9 : Int32} {x10 : Int32} {M : hp} {Q : Option Value → hp → Prop} (H : XS M) : Wp none d 143 85 [(0, .ref 64), (1, .int x1), (2, .int x2), (3, .int x3), (4, .int x4), (5, .int x5), (6, .int x6), (7, .int x7), (8, .int x8), (9, .int x9), (10, .int x10)] [] M Q = Wp none d 143 96 [(0, .ref 64), (1, .int x1), (2, .int x2), (3, .int x3), (4, .int x4), (5, .int x5), (6, .int x6), (7, .int x7), (8, .int x8), (9, .int x9), (10, .int x10)] [.int x8, .int x7, .ref 86] M Q := by
  rw [k143_85 (x0 := 64) (by rw [x_K64 H]) (by rw [x_R64_3 H]; decide) (by rw [x_R64_3 H, x_K83 H]) (by rw [x_R64_3 H, x_R83_2 H]; decide)]
  simp only [x_R64_3 H, x_R83_2 H]
theorem x143_108 {d : Nat} {x1 : Int32} {x2 : Int32} {x3 : Int32} {x4 : Int32} {x5 : Int32} {x6 : Int32} {x7 : Int32} {x8 : Int32} {x9 : Int32} {x10 : Int32} {M : hp} {Q : Option Value → hp → Prop} (H : XS M) : Wp none d 143 108 [(0, .ref 64), (1, .int x1), (2, .int x2), (3, .int x3), (4, .int x4), (5, .int x5), (6, .int x6), (7, .int x7), (8, .int x8), (9, .int x9), (10, .int x10)] [] M Q = Wp none d 143 118 [(0, .ref 64), (1, .int x1), (2, .int x2), (3, .int x3), (4, .int x4), (5, .int x5), (6, .int x6), (7, .int x7), (8, .int x8), (9, .int x9), (10, .int x10)] [.int (-1), .int x7, .ref 86] M Q := by
  rw [k143_108 (x0 := 64) (by rw [x_K64 H]) (by rw [x_R64_3 H]; decide) (by rw [x_R64_3 H, x_K83 H]) (by rw [x_R64_3 H, x_R83_2 H]; decide)]
  simp only [x_R64_3 H, x_R83_2 H]
theorem x143_130 {d : Nat} {x1 : Int32} {x2 : Int32} {x3 : Int32} {x4 : Int32} {x5 : Int32} {x6 : Int32} {x7 : Int32} {x8 : Int32} {x9 : Int32} {x10 : Int32} {M : hp} {Q : Option Value → hp → Prop} (H : XS M) : Wp none d 143 130 [(0, .ref 64), (1, .int x1), (2, .int x2), (3, .int x3), (4, .int x4), (5, .int x5), (6, .int x6), (7, .int x7), (8, .int x8), (9, .int x9), (10, .int x10)] [] M Q = Wp none d 143 140 [(0, .ref 64), (1, .int x1), (2, .int x2), (3, .int x3), (4, .int x4), (5, .int x5), (6, .int x6), (7, .int x7), (8, .int x8), (9, .int x9), (10, .int x10)] [.int ((1 : Int32) <<< (x9 &&& 31)), .int x7, .ref 83] M Q := by
  rw [k143_130 (x0 := 64) (by rw [x_K64 H]) (by rw [x_R64_3 H]; decide)]
  simp only [x_R64_3 H]
theorem x143_140 {d : Nat} {x1 : Int32} {x2 : Int32} {x3 : Int32} {x4 : Int32} {x5 : Int32} {x6 : Int32} {x7 : Int32} {x8 : Int32} {x9 : Int32} {x10 : Int32} {s0 : Int32} {s1 : Int32} {s2 : Nat} {M : hp} {Q : Option Value → hp → Prop} (H : XS M) (h1 : (hK M s2).1 = 0) : Wp none d 143 140 [(0, .ref 64), (1, .int x1), (2, .int x2), (3, .int x3), (4, .int x4), (5, .int x5), (6, .int x6), (7, .int x7), (8, .int x8), (9, .int x9), (10, .int x10)] [.int s0, .int s1, .ref s2] M Q = Wp none d 19 0 [(0, .ref s2), (1, .int s1), (2, .int s0)] [] M (fun r M1 => Wp none d 143 143 [(0, .ref 64), (1, .int x1), (2, .int x2), (3, .int x3), (4, .int x4), (5, .int x5), (6, .int x6), (7, .int x7), (8, .int x8), (9, .int x9), (10, .int x10)] (r.toList ++ []) M1 Q) := by
  rw [k143_140 (x0 := 64) h1]
