variable {d : Nat} {M : hp} {Q : Option Value → hp → Prop}
/-! the law, all calls -/
theorem law_sw {N i : Nat} {F : Nat → Int32} {z : Int32} (S : Sim M) (h6 : i + 6 ≤ N) (hN : N ≤ 3072) (K : LK N F i M Q) : Wp (some (N, F)) 8 272 33 [(0, .ref 1), (1, .ref 64), (2, .ref 126), (3, .int (nI i))] [.int z] M Q := by
  rw [k272_33]
  by_cases c0 : z = 0
  · rw [if_pos c0]
    exact lc_hat S h6 hN K
  rw [if_neg c0]
  by_cases c1 : z = 1
  · rw [if_pos c1]
    exact lc_of S h6 hN K
  rw [if_neg c1]
  by_cases c2 : z = 2
  · rw [if_pos c2]
    exact lc_two S h6 hN K
  rw [if_neg c2]
  by_cases c3 : z = 3
  · rw [if_pos c3]
    exact lc_on S h6 hN K
  rw [if_neg c3]
  by_cases c4 : z = 4
  · rw [if_pos c4]
    exact lc_terms S h6 hN K
  rw [if_neg c4]
  by_cases c5 : z = 5
  · rw [if_pos c5]
    exact lc_feed S h6 hN K
  rw [if_neg c5]
  by_cases c6 : z = 6
  · rw [if_pos c6]
    exact lc_end S h6 hN K
  rw [if_neg c6]
  by_cases c7 : z = 7
  · rw [if_pos c7]
    exact lc_row S h6 hN K
  rw [if_neg c7]
  by_cases c8 : z = 8
  · rw [if_pos c8]
    exact lc_caps S h6 hN K
  rw [if_neg c8]
  by_cases c9 : z = 9
  · rw [if_pos c9]
    exact lc_law S h6 hN K
  rw [if_neg c9]
  by_cases c10 : z = 10
  · rw [if_pos c10]
    exact lc_orders S h6 hN K
  rw [if_neg c10]
  by_cases c11 : z = 11
  · rw [if_pos c11]
    exact lc_fault S h6 hN K
  rw [if_neg c11]
  by_cases c12 : z = 12
  · rw [if_pos c12]
    exact lc_stopped S h6 hN K
  rw [if_neg c12]
  by_cases c13 : z = 13
  · rw [if_pos c13]
    exact lc_force S h6 hN K
  rw [if_neg c13]
  by_cases c14 : z = 14
  · rw [if_pos c14]
    exact lc_hang S h6 hN K
  rw [if_neg c14]
  by_cases c15 : z = 15
  · rw [if_pos c15]
    exact lc_take S h6 hN K
  rw [if_neg c15]
  by_cases c16 : z = 16
  · rw [if_pos c16]
    exact lc_think S h6 hN K
  rw [if_neg c16]
  by_cases c17 : z = 17
  · rw [if_pos c17]
    exact lc_pass S h6 hN K
  rw [if_neg c17]
  by_cases c18 : z = 18
  · rw [if_pos c18]
    exact lc_undo S h6 hN K
  rw [if_neg c18]
  by_cases c19 : z = 19
  · rw [if_pos c19]
    exact lc_later S h6 hN K
  rw [if_neg c19]
  by_cases c20 : z = 20
  · rw [if_pos c20]
    exact lc_learns S h6 hN K
  rw [if_neg c20]
  by_cases c21 : z = 21
  · rw [if_pos c21]
    exact lc_still S h6 hN K
  rw [if_neg c21]
  by_cases c22 : z = 22
  · rw [if_pos c22]
    exact lc_pegFor S h6 hN K
  rw [if_neg c22]
  by_cases c23 : z = 23
  · rw [if_pos c23]
    exact lc_cut S h6 hN K
  rw [if_neg c23]
  by_cases c24 : z = 24
  · rw [if_pos c24]
    exact lc_quiet S h6 hN K
  rw [if_neg c24]
  by_cases c25 : z = 25
  · rw [if_pos c25]
    exact lc_groups S h6 hN K
  rw [if_neg c25]
  by_cases c26 : z = 26
  · rw [if_pos c26]
    exact lc_talkative S h6 hN K
  rw [if_neg c26]
  by_cases c27 : z = 27
  · rw [if_pos c27]
    exact lc_heard S h6 hN K
  rw [if_neg c27]
  by_cases c28 : z = 28
  · rw [if_pos c28]
    exact lc_forget S h6 hN K
  rw [if_neg c28]
  by_cases c29 : z = 29
  · rw [if_pos c29]
    exact lc_canBe S h6 hN K
  rw [if_neg c29]
  by_cases c30 : z = 30
  · rw [if_pos c30]
    exact lc_ask S h6 hN K
  rw [if_neg c30]
  by_cases c31 : z = 31
  · rw [if_pos c31]
    exact lc_few S h6 hN K
  rw [if_neg c31]
  by_cases c32 : z = 32
  · rw [if_pos c32]
    exact lc_compare S h6 hN K
  rw [if_neg c32]
  by_cases c33 : z = 33
  · rw [if_pos c33]
    exact lc_capitals S h6 hN K
  rw [if_neg c33]
  by_cases c34 : z = 34
  · rw [if_pos c34]
    exact lc_drawn S h6 hN K
  rw [if_neg c34]
  by_cases c35 : z = 35
  · rw [if_pos c35]
    exact lc_image S h6 hN K
  rw [if_neg c35]
  by_cases c36 : z = 36
  · rw [if_pos c36]
    exact lc_back S h6 hN K
  rw [if_neg c36]
  by_cases c37 : z = 37
  · rw [if_pos c37]
    exact lc_count S h6 hN K
  rw [if_neg c37]
  by_cases c38 : z = 38
  · rw [if_pos c38]
    exact lc_status S h6 hN K
  rw [if_neg c38]
  exact K M S (by omega) (by omega)
theorem law_lt {N i : Nat} (hNN : N ≤ 3072) (hi : i ≤ 4000) : Int32.ofNat N - 6 < nI i ↔ N < i + 6 := by
  by_cases c : 6 ≤ N
  · rw [show Int32.ofNat N - 6 = nI (N - 6) from n_subl c, n_lt (by omega) (by omega)]
    omega
  · have e : (Int32.ofNat N - 6).toInt = (N : Int) - 6 := by
      have : N = 0 ∨ N = 1 ∨ N = 2 ∨ N = 3 ∨ N = 4 ∨ N = 5 := by omega
      rcases this with rfl | rfl | rfl | rfl | rfl | rfl <;> decide
    rw [fa_lt, e, nI_toInt (show i < 2 ^ 31 by omega)]
    omega
theorem law_loop {N A B : Nat} {F : Nat → Int32} (hNN : N ≤ 3072) (fin : ∀ M2, hN M2 ≤ A + 3072 → hS M2 ≤ B + 307200 → Q (some (.int 1)) M2) : ∀ (m i : Nat) (M : hp), N ≤ i + m → i ≤ N → Sim M → hN M ≤ A + i → hS M ≤ B + 100 * i → Wp (some (N, F)) 8 272 18 [(0, .ref 1), (1, .ref 64), (2, .ref 126), (3, .int (nI i))] [] M Q := by
  intro m
  induction m with
  | zero =>
    intro i M e hi S h1 h2
    rw [k272_18 rfl, k272_24, if_pos ((law_lt hNN (by omega)).mpr (by omega)), k272_1238]
    exact fin M (by omega) (by omega)
  | succ m ih =>
    intro i M e hi S h1 h2
    rw [k272_18 rfl, k272_24]
    by_cases c : N < i + 6
    · rw [if_pos ((law_lt hNN (by omega)).mpr c), k272_1238]
      exact fin M (by omega) (by omega)
    · rw [if_neg (fun z => c ((law_lt hNN (by omega)).mp z)), k272_27 rfl (by rw [vin_n (by omega)]; exact decide_eq_true (by omega))]
      refine law_sw S (by omega) hNN (fun M2 S2 n2 s2 => ?_)
      rw [k272_1232, show nI i + 6 = nI (i + 6) from nI_add i 6]
      have q1 : hN M2 ≤ A + (i + 6) := Nat.le_trans n2 (by rw [← Nat.add_assoc]; exact Nat.le_trans (Nat.add_le_add_right h1 3) (Nat.add_le_add_left (by decide) _))
      have q2 : hS M2 ≤ B + 100 * (i + 6) := Nat.le_trans s2 (by rw [Nat.mul_add, ← Nat.add_assoc]; exact Nat.le_trans (Nat.add_le_add_right h2 500) (Nat.add_le_add_left (by decide) _))
      exact ih (i + 6) M2 (by omega) (by omega) S2 q1 q2
