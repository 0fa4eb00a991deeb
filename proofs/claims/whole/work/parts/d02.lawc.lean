variable {d : Nat} {M : hp} {Q : Option Value → hp → Prop}
/-! the law, call by call -/
theorem lc_hat {N i : Nat} {F : Nat → Int32} (S : Sim M) (h6 : i + 6 ≤ N) (hN : N ≤ 3072) (K : LK N F i M Q) : Wp (some (N, F)) 8 272 204 [(0, .ref 1), (1, .ref 64), (2, .ref 126), (3, .int (nI i))] [] M Q := by
  have X := S.1.2.1
  have v1 : vin (nI i + 1) N = true := vlaw (j := 1) (by omega) hN
  have v2 : vin (nI i + 2) N = true := vlaw (j := 2) (by omega) hN
  rw [k272_204 rfl v1 v2, k272_215 (x_K64 X)]
  refine p_hat S (Alk_int (by decide +kernel) (by decide +kernel) (fun z M1 h9 R => ?_))
  simp only [oN]
  rw [k272_218 rfl v1 v2, k272_229 h9]
  refine R _ (fun M2 S2 n2 s2 => ?_)
  simp only [oM]
  rw [k272_232, if_pos rfl]
  exact K M2 S2 n2 s2
theorem lc_of {N i : Nat} {F : Nat → Int32} (S : Sim M) (h6 : i + 6 ≤ N) (hN : N ≤ 3072) (K : LK N F i M Q) : Wp (some (N, F)) 8 272 237 [(0, .ref 1), (1, .ref 64), (2, .ref 126), (3, .int (nI i))] [] M Q := by
  have X := S.1.2.1
  have v1 : vin (nI i + 1) N = true := vlaw (j := 1) (by omega) hN
  have v2 : vin (nI i + 2) N = true := vlaw (j := 2) (by omega) hN
  rw [k272_237 rfl v1 v2, k272_248 (x_K64 X)]
  refine p_of S (Alk_int (by decide +kernel) (by decide +kernel) (fun z M1 h9 R => ?_))
  simp only [oN]
  rw [k272_251 rfl v1 v2, k272_262 h9]
  refine R _ (fun M2 S2 n2 s2 => ?_)
  simp only [oM]
  rw [k272_265, if_pos rfl]
  exact K M2 S2 n2 s2
theorem lc_two {N i : Nat} {F : Nat → Int32} (S : Sim M) (h6 : i + 6 ≤ N) (hN : N ≤ 3072) (K : LK N F i M Q) : Wp (some (N, F)) 8 272 270 [(0, .ref 1), (1, .ref 64), (2, .ref 126), (3, .int (nI i))] [] M Q := by
  have X := S.1.2.1
  have v1 : vin (nI i + 1) N = true := vlaw (j := 1) (by omega) hN
  have v2 : vin (nI i + 2) N = true := vlaw (j := 2) (by omega) hN
  have v3 : vin (nI i + 3) N = true := vlaw (j := 3) (by omega) hN
  rw [k272_270 rfl v1 v2 v3, k272_286 (x_K64 X)]
  refine p_two S (Alk_int (by decide +kernel) (by decide +kernel) (fun z M1 h9 R => ?_))
  simp only [oN]
  rw [k272_289 rfl v1 v2 v3, k272_305 h9]
  refine R _ (fun M2 S2 n2 s2 => ?_)
  simp only [oM]
  rw [k272_308, if_pos rfl]
  exact K M2 S2 n2 s2
theorem lc_on {N i : Nat} {F : Nat → Int32} (S : Sim M) (h6 : i + 6 ≤ N) (hN : N ≤ 3072) (K : LK N F i M Q) : Wp (some (N, F)) 8 272 313 [(0, .ref 1), (1, .ref 64), (2, .ref 126), (3, .int (nI i))] [] M Q := by
  have X := S.1.2.1
  have v1 : vin (nI i + 1) N = true := vlaw (j := 1) (by omega) hN
  rw [k272_313 rfl v1, k272_319 (x_K64 X)]
  refine p_on S (Alk_int (by decide +kernel) (by decide +kernel) (fun z M1 h9 R => ?_))
  simp only [oN]
  rw [k272_322 rfl v1, k272_328 h9]
  refine R _ (fun M2 S2 n2 s2 => ?_)
  simp only [oM]
  rw [k272_331, if_pos rfl]
  exact K M2 S2 n2 s2
theorem lc_terms {N i : Nat} {F : Nat → Int32} (S : Sim M) (h6 : i + 6 ≤ N) (hN : N ≤ 3072) (K : LK N F i M Q) : Wp (some (N, F)) 8 272 336 [(0, .ref 1), (1, .ref 64), (2, .ref 126), (3, .int (nI i))] [] M Q := by
  have X := S.1.2.1
  have v1 : vin (nI i + 1) N = true := vlaw (j := 1) (by omega) hN
  have v2 : vin (nI i + 2) N = true := vlaw (j := 2) (by omega) hN
  rw [k272_336 rfl v1 v2, k272_347 (x_K64 X)]
  refine p_terms S (Alk_int (by decide +kernel) (by decide +kernel) (fun z M1 h9 R => ?_))
  simp only [oN]
  rw [k272_350 rfl v1 v2, k272_361 h9]
  refine R _ (fun M2 S2 n2 s2 => ?_)
  simp only [oM]
  rw [k272_364, if_pos rfl]
  exact K M2 S2 n2 s2
theorem lc_feed {N i : Nat} {F : Nat → Int32} (S : Sim M) (h6 : i + 6 ≤ N) (hN : N ≤ 3072) (K : LK N F i M Q) : Wp (some (N, F)) 8 272 369 [(0, .ref 1), (1, .ref 64), (2, .ref 126), (3, .int (nI i))] [] M Q := by
  have X := S.1.2.1
  have v1 : vin (nI i + 1) N = true := vlaw (j := 1) (by omega) hN
  have v2 : vin (nI i + 2) N = true := vlaw (j := 2) (by omega) hN
  have v3 : vin (nI i + 3) N = true := vlaw (j := 3) (by omega) hN
  have v4 : vin (nI i + 4) N = true := vlaw (j := 4) (by omega) hN
  have v5 : vin (nI i + 5) N = true := vlaw (j := 5) (by omega) hN
  rw [k272_369 rfl v1 v2 v3 v4 v5, k272_395 (x_K64 X)]
  refine p_feed S (Alk_int (by decide +kernel) (by decide +kernel) (fun z M1 h9 R => ?_))
  simp only [oN]
  rw [k272_398 rfl v1 v2 v3 v4 v5, k272_424 h9]
  refine R _ (fun M2 S2 n2 s2 => ?_)
  simp only [oM]
  rw [k272_427, if_pos rfl]
  exact K M2 S2 n2 s2
theorem lc_end {N i : Nat} {F : Nat → Int32} (S : Sim M) (h6 : i + 6 ≤ N) (hN : N ≤ 3072) (K : LK N F i M Q) : Wp (some (N, F)) 8 272 432 [(0, .ref 1), (1, .ref 64), (2, .ref 126), (3, .int (nI i))] [] M Q := by
  have X := S.1.2.1
  have v1 : vin (nI i + 1) N = true := vlaw (j := 1) (by omega) hN
  rw [k272_432 rfl v1, k272_438 (x_K64 X)]
  refine p_end S (Alk_int (by decide +kernel) (by decide +kernel) (fun z M1 h9 R => ?_))
  simp only [oN]
  rw [k272_441 rfl v1, k272_447 h9]
  refine R _ (fun M2 S2 n2 s2 => ?_)
  simp only [oM]
  rw [k272_450, if_pos rfl]
  exact K M2 S2 n2 s2
theorem lc_row {N i : Nat} {F : Nat → Int32} (S : Sim M) (h6 : i + 6 ≤ N) (hN : N ≤ 3072) (K : LK N F i M Q) : Wp (some (N, F)) 8 272 455 [(0, .ref 1), (1, .ref 64), (2, .ref 126), (3, .int (nI i))] [] M Q := by
  have X := S.1.2.1
  rw [k272_455, k272_456 (x_K64 X)]
  refine p_row S (Alk_int (by decide +kernel) (by decide +kernel) (fun z M1 h9 R => ?_))
  simp only [oN]
  rw [k272_459, k272_460 h9]
  refine R _ (fun M2 S2 n2 s2 => ?_)
  simp only [oM]
  rw [k272_463, if_pos rfl]
  exact K M2 S2 n2 s2
theorem lc_caps {N i : Nat} {F : Nat → Int32} (S : Sim M) (h6 : i + 6 ≤ N) (hN : N ≤ 3072) (K : LK N F i M Q) : Wp (some (N, F)) 8 272 468 [(0, .ref 1), (1, .ref 64), (2, .ref 126), (3, .int (nI i))] [] M Q := by
  have X := S.1.2.1
  rw [k272_468, k272_469 (x_K64 X)]
  refine p_caps S (Alk_int (by decide +kernel) (by decide +kernel) (fun z M1 h9 R => ?_))
  simp only [oN]
  rw [k272_472, k272_473 h9]
  refine R _ (fun M2 S2 n2 s2 => ?_)
  simp only [oM]
  rw [k272_476, if_pos rfl]
  exact K M2 S2 n2 s2
theorem lc_law {N i : Nat} {F : Nat → Int32} (S : Sim M) (h6 : i + 6 ≤ N) (hN : N ≤ 3072) (K : LK N F i M Q) : Wp (some (N, F)) 8 272 481 [(0, .ref 1), (1, .ref 64), (2, .ref 126), (3, .int (nI i))] [] M Q := by
  have X := S.1.2.1
  rw [k272_481, k272_482 (x_K64 X)]
  refine p_law (e := 0) S (Alk_int (by decide +kernel) (by decide +kernel) (fun z M1 h9 R => ?_))
  simp only [oN]
  rw [k272_485, k272_486 h9]
  refine R _ (fun M2 S2 n2 s2 => ?_)
  simp only [oM]
  rw [k272_489, if_pos rfl]
  exact K M2 S2 n2 s2
theorem lc_orders {N i : Nat} {F : Nat → Int32} (S : Sim M) (h6 : i + 6 ≤ N) (hN : N ≤ 3072) (K : LK N F i M Q) : Wp (some (N, F)) 8 272 494 [(0, .ref 1), (1, .ref 64), (2, .ref 126), (3, .int (nI i))] [] M Q := by
  have X := S.1.2.1
  rw [k272_494, k272_495 (x_K64 X)]
  refine p_orders (e := 0) S (Alk_int (by decide +kernel) (by decide +kernel) (fun z M1 h9 R => ?_))
  simp only [oN]
  rw [k272_498, k272_499 h9]
  refine R _ (fun M2 S2 n2 s2 => ?_)
  simp only [oM]
  rw [k272_502, if_pos rfl]
  exact K M2 S2 n2 s2
theorem lc_fault {N i : Nat} {F : Nat → Int32} (S : Sim M) (h6 : i + 6 ≤ N) (hN : N ≤ 3072) (K : LK N F i M Q) : Wp (some (N, F)) 8 272 507 [(0, .ref 1), (1, .ref 64), (2, .ref 126), (3, .int (nI i))] [] M Q := by
  have X := S.1.2.1
  rw [k272_507, k272_508 (x_K64 X)]
  refine p_fault S (Alk_int (by decide +kernel) (by decide +kernel) (fun z M1 h9 R => ?_))
  simp only [oN]
  rw [k272_511, k272_512 h9]
  refine R _ (fun M2 S2 n2 s2 => ?_)
  simp only [oM]
  rw [k272_515, if_pos rfl]
  exact K M2 S2 n2 s2
theorem lc_stopped {N i : Nat} {F : Nat → Int32} (S : Sim M) (h6 : i + 6 ≤ N) (hN : N ≤ 3072) (K : LK N F i M Q) : Wp (some (N, F)) 8 272 520 [(0, .ref 1), (1, .ref 64), (2, .ref 126), (3, .int (nI i))] [] M Q := by
  have X := S.1.2.1
  rw [k272_520, k272_521 (x_K64 X)]
  refine p_stopped S (Alk_int (by decide +kernel) (by decide +kernel) (fun z M1 h9 R => ?_))
  simp only [oN]
  rw [k272_524, k272_525 h9]
  refine R _ (fun M2 S2 n2 s2 => ?_)
  simp only [oM]
  rw [k272_528, if_pos rfl]
  exact K M2 S2 n2 s2
theorem lc_force {N i : Nat} {F : Nat → Int32} (S : Sim M) (h6 : i + 6 ≤ N) (hN : N ≤ 3072) (K : LK N F i M Q) : Wp (some (N, F)) 8 272 533 [(0, .ref 1), (1, .ref 64), (2, .ref 126), (3, .int (nI i))] [] M Q := by
  have X := S.1.2.1
  have v1 : vin (nI i + 1) N = true := vlaw (j := 1) (by omega) hN
  rw [k272_533 rfl v1, k272_539 (x_K64 X)]
  refine p_force S (Alk_int (by decide +kernel) (by decide +kernel) (fun z M1 h9 R => ?_))
  simp only [oN]
  rw [k272_542 rfl v1, k272_548 h9]
  refine R _ (fun M2 S2 n2 s2 => ?_)
  simp only [oM]
  rw [k272_551, if_pos rfl]
  exact K M2 S2 n2 s2
theorem lc_hang {N i : Nat} {F : Nat → Int32} (S : Sim M) (h6 : i + 6 ≤ N) (hN : N ≤ 3072) (K : LK N F i M Q) : Wp (some (N, F)) 8 272 556 [(0, .ref 1), (1, .ref 64), (2, .ref 126), (3, .int (nI i))] [] M Q := by
  have X := S.1.2.1
  have v1 : vin (nI i + 1) N = true := vlaw (j := 1) (by omega) hN
  have v2 : vin (nI i + 2) N = true := vlaw (j := 2) (by omega) hN
  rw [k272_556 rfl v1 v2, k272_567 (x_K64 X)]
  refine p_hang S (Alk_int (by decide +kernel) (by decide +kernel) (fun z M1 h9 R => ?_))
  simp only [oN]
  rw [k272_570 rfl v1 v2, k272_581 h9]
  refine R _ (fun M2 S2 n2 s2 => ?_)
  simp only [oM]
  rw [k272_584, if_pos rfl]
  exact K M2 S2 n2 s2
theorem lc_take {N i : Nat} {F : Nat → Int32} (S : Sim M) (h6 : i + 6 ≤ N) (hN : N ≤ 3072) (K : LK N F i M Q) : Wp (some (N, F)) 8 272 589 [(0, .ref 1), (1, .ref 64), (2, .ref 126), (3, .int (nI i))] [] M Q := by
  have X := S.1.2.1
  have v1 : vin (nI i + 1) N = true := vlaw (j := 1) (by omega) hN
  rw [k272_589 rfl v1, k272_595 (x_K64 X)]
  refine p_take S (Alk_int (by decide +kernel) (by decide +kernel) (fun z M1 h9 R => ?_))
  simp only [oN]
  rw [k272_598 rfl v1, k272_604 h9]
  refine R _ (fun M2 S2 n2 s2 => ?_)
  simp only [oM]
  rw [k272_607, if_pos rfl]
  exact K M2 S2 n2 s2
theorem lc_think {N i : Nat} {F : Nat → Int32} (S : Sim M) (h6 : i + 6 ≤ N) (hN : N ≤ 3072) (K : LK N F i M Q) : Wp (some (N, F)) 8 272 612 [(0, .ref 1), (1, .ref 64), (2, .ref 126), (3, .int (nI i))] [] M Q := by
  have X := S.1.2.1
  have v1 : vin (nI i + 1) N = true := vlaw (j := 1) (by omega) hN
  have v2 : vin (nI i + 2) N = true := vlaw (j := 2) (by omega) hN
  rw [k272_612 rfl v1 v2, k272_623 (x_K64 X)]
  refine p_think S (Alk_int (by decide +kernel) (by decide +kernel) (fun z M1 h9 R => ?_))
  simp only [oN]
  rw [k272_626 rfl v1 v2, k272_637 h9]
  refine R _ (fun M2 S2 n2 s2 => ?_)
  simp only [oM]
  rw [k272_640, if_pos rfl]
  exact K M2 S2 n2 s2
theorem lc_pass {N i : Nat} {F : Nat → Int32} (S : Sim M) (h6 : i + 6 ≤ N) (hN : N ≤ 3072) (K : LK N F i M Q) : Wp (some (N, F)) 8 272 645 [(0, .ref 1), (1, .ref 64), (2, .ref 126), (3, .int (nI i))] [] M Q := by
  have X := S.1.2.1
  rw [k272_645, k272_646 (x_K64 X)]
  refine p_pass S (Alk_int (by decide +kernel) (by decide +kernel) (fun z M1 h9 R => ?_))
  simp only [oN]
  rw [k272_649, k272_650 h9]
  refine R _ (fun M2 S2 n2 s2 => ?_)
  simp only [oM]
  rw [k272_653, if_pos rfl]
  exact K M2 S2 n2 s2
theorem lc_undo {N i : Nat} {F : Nat → Int32} (S : Sim M) (h6 : i + 6 ≤ N) (hN : N ≤ 3072) (K : LK N F i M Q) : Wp (some (N, F)) 8 272 658 [(0, .ref 1), (1, .ref 64), (2, .ref 126), (3, .int (nI i))] [] M Q := by
  have X := S.1.2.1
  rw [k272_658, k272_659 (x_K64 X)]
  refine p_undo S (Alk_int (by decide +kernel) (by decide +kernel) (fun z M1 h9 R => ?_))
  simp only [oN]
  rw [k272_662, k272_663 h9]
  refine R _ (fun M2 S2 n2 s2 => ?_)
  simp only [oM]
  rw [k272_666, if_pos rfl]
  exact K M2 S2 n2 s2
theorem lc_later {N i : Nat} {F : Nat → Int32} (S : Sim M) (h6 : i + 6 ≤ N) (hN : N ≤ 3072) (K : LK N F i M Q) : Wp (some (N, F)) 8 272 671 [(0, .ref 1), (1, .ref 64), (2, .ref 126), (3, .int (nI i))] [] M Q := by
  have X := S.1.2.1
  have v1 : vin (nI i + 1) N = true := vlaw (j := 1) (by omega) hN
  have v2 : vin (nI i + 2) N = true := vlaw (j := 2) (by omega) hN
  rw [k272_671 rfl v1 v2, k272_682 (x_K64 X)]
  refine p_later S (Alk_int (by decide +kernel) (by decide +kernel) (fun z M1 h9 R => ?_))
  simp only [oN]
  rw [k272_685 rfl v1 v2, k272_696 h9]
  refine R _ (fun M2 S2 n2 s2 => ?_)
  simp only [oM]
  rw [k272_699, if_pos rfl]
  exact K M2 S2 n2 s2
theorem lc_learns {N i : Nat} {F : Nat → Int32} (S : Sim M) (h6 : i + 6 ≤ N) (hN : N ≤ 3072) (K : LK N F i M Q) : Wp (some (N, F)) 8 272 704 [(0, .ref 1), (1, .ref 64), (2, .ref 126), (3, .int (nI i))] [] M Q := by
  have X := S.1.2.1
  have v1 : vin (nI i + 1) N = true := vlaw (j := 1) (by omega) hN
  have v2 : vin (nI i + 2) N = true := vlaw (j := 2) (by omega) hN
  rw [k272_704 rfl v1 v2, k272_715 (x_K64 X)]
  refine p_learns S (Alk_int (by decide +kernel) (by decide +kernel) (fun z M1 h9 R => ?_))
  simp only [oN]
  rw [k272_718 rfl v1 v2, k272_729 h9]
  refine R _ (fun M2 S2 n2 s2 => ?_)
  simp only [oM]
  rw [k272_732, if_pos rfl]
  exact K M2 S2 n2 s2
theorem lc_still {N i : Nat} {F : Nat → Int32} (S : Sim M) (h6 : i + 6 ≤ N) (hN : N ≤ 3072) (K : LK N F i M Q) : Wp (some (N, F)) 8 272 737 [(0, .ref 1), (1, .ref 64), (2, .ref 126), (3, .int (nI i))] [] M Q := by
  have X := S.1.2.1
  rw [k272_737, k272_738 (x_K64 X)]
  refine p_still S (Alk_int (by decide +kernel) (by decide +kernel) (fun z M1 h9 R => ?_))
  simp only [oN]
  rw [k272_741, k272_742 h9]
  refine R _ (fun M2 S2 n2 s2 => ?_)
  simp only [oM]
  rw [k272_745, if_pos rfl]
  exact K M2 S2 n2 s2
theorem lc_pegFor {N i : Nat} {F : Nat → Int32} (S : Sim M) (h6 : i + 6 ≤ N) (hN : N ≤ 3072) (K : LK N F i M Q) : Wp (some (N, F)) 8 272 750 [(0, .ref 1), (1, .ref 64), (2, .ref 126), (3, .int (nI i))] [] M Q := by
  have X := S.1.2.1
  have v1 : vin (nI i + 1) N = true := vlaw (j := 1) (by omega) hN
  have v2 : vin (nI i + 2) N = true := vlaw (j := 2) (by omega) hN
  have v3 : vin (nI i + 3) N = true := vlaw (j := 3) (by omega) hN
  have v4 : vin (nI i + 4) N = true := vlaw (j := 4) (by omega) hN
  rw [k272_750 rfl v1 v2 v3 v4, k272_771 (x_K64 X)]
  refine p_pegFor S (Alk_int (by decide +kernel) (by decide +kernel) (fun z M1 h9 R => ?_))
  simp only [oN]
  rw [k272_774 rfl v1 v2 v3 v4, k272_795 h9]
  refine R _ (fun M2 S2 n2 s2 => ?_)
  simp only [oM]
  rw [k272_798, if_pos rfl]
  exact K M2 S2 n2 s2
theorem lc_cut {N i : Nat} {F : Nat → Int32} (S : Sim M) (h6 : i + 6 ≤ N) (hN : N ≤ 3072) (K : LK N F i M Q) : Wp (some (N, F)) 8 272 803 [(0, .ref 1), (1, .ref 64), (2, .ref 126), (3, .int (nI i))] [] M Q := by
  have X := S.1.2.1
  have v1 : vin (nI i + 1) N = true := vlaw (j := 1) (by omega) hN
  have v2 : vin (nI i + 2) N = true := vlaw (j := 2) (by omega) hN
  have v3 : vin (nI i + 3) N = true := vlaw (j := 3) (by omega) hN
  rw [k272_803 rfl v1 v2 v3, k272_819 (x_K64 X)]
  refine p_cut S (Alk_int (by decide +kernel) (by decide +kernel) (fun z M1 h9 R => ?_))
  simp only [oN]
  rw [k272_822 rfl v1 v2 v3, k272_838 h9]
  refine R _ (fun M2 S2 n2 s2 => ?_)
  simp only [oM]
  rw [k272_841, if_pos rfl]
  exact K M2 S2 n2 s2
theorem lc_quiet {N i : Nat} {F : Nat → Int32} (S : Sim M) (h6 : i + 6 ≤ N) (hN : N ≤ 3072) (K : LK N F i M Q) : Wp (some (N, F)) 8 272 846 [(0, .ref 1), (1, .ref 64), (2, .ref 126), (3, .int (nI i))] [] M Q := by
  have X := S.1.2.1
  have v1 : vin (nI i + 1) N = true := vlaw (j := 1) (by omega) hN
  have v2 : vin (nI i + 2) N = true := vlaw (j := 2) (by omega) hN
  rw [k272_846 rfl v1 v2, k272_857 (x_K64 X)]
  refine p_quiet S (Alk_int (by decide +kernel) (by decide +kernel) (fun z M1 h9 R => ?_))
  simp only [oN]
  rw [k272_860 rfl v1 v2, k272_871 h9]
  refine R _ (fun M2 S2 n2 s2 => ?_)
  simp only [oM]
  rw [k272_874, if_pos rfl]
  exact K M2 S2 n2 s2
theorem lc_groups {N i : Nat} {F : Nat → Int32} (S : Sim M) (h6 : i + 6 ≤ N) (hN : N ≤ 3072) (K : LK N F i M Q) : Wp (some (N, F)) 8 272 879 [(0, .ref 1), (1, .ref 64), (2, .ref 126), (3, .int (nI i))] [] M Q := by
  have X := S.1.2.1
  have v1 : vin (nI i + 1) N = true := vlaw (j := 1) (by omega) hN
  rw [k272_879 rfl v1, k272_885 (x_K64 X)]
  refine p_groups S (Alk_int (by decide +kernel) (by decide +kernel) (fun z M1 h9 R => ?_))
  simp only [oN]
  rw [k272_888 rfl v1, k272_894 h9]
  refine R _ (fun M2 S2 n2 s2 => ?_)
  simp only [oM]
  rw [k272_897, if_pos rfl]
  exact K M2 S2 n2 s2
theorem lc_talkative {N i : Nat} {F : Nat → Int32} (S : Sim M) (h6 : i + 6 ≤ N) (hN : N ≤ 3072) (K : LK N F i M Q) : Wp (some (N, F)) 8 272 902 [(0, .ref 1), (1, .ref 64), (2, .ref 126), (3, .int (nI i))] [] M Q := by
  have X := S.1.2.1
  have v1 : vin (nI i + 1) N = true := vlaw (j := 1) (by omega) hN
  rw [k272_902 rfl v1, k272_908 (x_K64 X)]
  refine p_talkative S (Alk_int (by decide +kernel) (by decide +kernel) (fun z M1 h9 R => ?_))
  simp only [oN]
  rw [k272_911 rfl v1, k272_917 h9]
  refine R _ (fun M2 S2 n2 s2 => ?_)
  simp only [oM]
  rw [k272_920, if_pos rfl]
  exact K M2 S2 n2 s2
theorem lc_heard {N i : Nat} {F : Nat → Int32} (S : Sim M) (h6 : i + 6 ≤ N) (hN : N ≤ 3072) (K : LK N F i M Q) : Wp (some (N, F)) 8 272 925 [(0, .ref 1), (1, .ref 64), (2, .ref 126), (3, .int (nI i))] [] M Q := by
  have X := S.1.2.1
  have v1 : vin (nI i + 1) N = true := vlaw (j := 1) (by omega) hN
  have v2 : vin (nI i + 2) N = true := vlaw (j := 2) (by omega) hN
  rw [k272_925 rfl v1 v2, k272_936 (x_K64 X)]
  refine p_heard S (Alk_int (by decide +kernel) (by decide +kernel) (fun z M1 h9 R => ?_))
  simp only [oN]
  rw [k272_939 rfl v1 v2, k272_950 h9]
  refine R _ (fun M2 S2 n2 s2 => ?_)
  simp only [oM]
  rw [k272_953, if_pos rfl]
  exact K M2 S2 n2 s2
theorem lc_forget {N i : Nat} {F : Nat → Int32} (S : Sim M) (h6 : i + 6 ≤ N) (hN : N ≤ 3072) (K : LK N F i M Q) : Wp (some (N, F)) 8 272 958 [(0, .ref 1), (1, .ref 64), (2, .ref 126), (3, .int (nI i))] [] M Q := by
  have X := S.1.2.1
  rw [k272_958, k272_959 (x_K64 X)]
  refine p_forget S (Alk_int (by decide +kernel) (by decide +kernel) (fun z M1 h9 R => ?_))
  simp only [oN]
  rw [k272_962, k272_963 h9]
  refine R _ (fun M2 S2 n2 s2 => ?_)
  simp only [oM]
  rw [k272_966, if_pos rfl]
  exact K M2 S2 n2 s2
theorem lc_canBe {N i : Nat} {F : Nat → Int32} (S : Sim M) (h6 : i + 6 ≤ N) (hN : N ≤ 3072) (K : LK N F i M Q) : Wp (some (N, F)) 8 272 971 [(0, .ref 1), (1, .ref 64), (2, .ref 126), (3, .int (nI i))] [] M Q := by
  have X := S.1.2.1
  rw [k272_971, k272_972 (x_K64 X)]
  refine p_canBe S (Alk_int (by decide +kernel) (by decide +kernel) (fun z M1 h9 R => ?_))
  simp only [oN]
  rw [k272_975, k272_976 h9]
  refine R _ (fun M2 S2 n2 s2 => ?_)
  simp only [oM]
  rw [k272_979, if_pos rfl]
  exact K M2 S2 n2 s2
theorem lc_ask {N i : Nat} {F : Nat → Int32} (S : Sim M) (h6 : i + 6 ≤ N) (hN : N ≤ 3072) (K : LK N F i M Q) : Wp (some (N, F)) 8 272 984 [(0, .ref 1), (1, .ref 64), (2, .ref 126), (3, .int (nI i))] [] M Q := by
  have X := S.1.2.1
  have v1 : vin (nI i + 1) N = true := vlaw (j := 1) (by omega) hN
  rw [k272_984 rfl v1, k272_990 (x_K64 X)]
  refine p_ask S (Alk_int (by decide +kernel) (by decide +kernel) (fun z M1 h9 R => ?_))
  simp only [oN]
  rw [k272_993 rfl v1, k272_999 h9]
  refine R _ (fun M2 S2 n2 s2 => ?_)
  simp only [oM]
  rw [k272_1002, if_pos rfl]
  exact K M2 S2 n2 s2
theorem lc_few {N i : Nat} {F : Nat → Int32} (S : Sim M) (h6 : i + 6 ≤ N) (hN : N ≤ 3072) (K : LK N F i M Q) : Wp (some (N, F)) 8 272 1007 [(0, .ref 1), (1, .ref 64), (2, .ref 126), (3, .int (nI i))] [] M Q := by
  have X := S.1.2.1
  have v1 : vin (nI i + 1) N = true := vlaw (j := 1) (by omega) hN
  have v2 : vin (nI i + 2) N = true := vlaw (j := 2) (by omega) hN
  rw [k272_1007 rfl v1 v2, k272_1018 (x_K64 X)]
  refine p_few S (Alk_long (by decide +kernel) (by decide +kernel) (by decide +kernel) (fun z M1 h9 R => ?_))
  simp only [oN]
  rw [k272_1021 rfl v1 v2, k272_1032 h9]
  refine R _ (fun M2 S2 n2 s2 => ?_)
  simp only [oM]
  rw [k272_1035, k272_1036]
  simp only [lg_cmp_eq]
  rw [if_pos trivial]
  exact K M2 S2 n2 s2
theorem lc_compare {N i : Nat} {F : Nat → Int32} (S : Sim M) (h6 : i + 6 ≤ N) (hN : N ≤ 3072) (K : LK N F i M Q) : Wp (some (N, F)) 8 272 1041 [(0, .ref 1), (1, .ref 64), (2, .ref 126), (3, .int (nI i))] [] M Q := by
  have X := S.1.2.1
  have v1 : vin (nI i + 1) N = true := vlaw (j := 1) (by omega) hN
  have v2 : vin (nI i + 2) N = true := vlaw (j := 2) (by omega) hN
  have v3 : vin (nI i + 3) N = true := vlaw (j := 3) (by omega) hN
  rw [k272_1041 rfl v1 v2 v3, k272_1057 (x_K64 X)]
  refine p_compare S (Alk_int (by decide +kernel) (by decide +kernel) (fun z M1 h9 R => ?_))
  simp only [oN]
  rw [k272_1060 rfl v1 v2 v3, k272_1076 h9]
  refine R _ (fun M2 S2 n2 s2 => ?_)
  simp only [oM]
  rw [k272_1079, if_pos rfl]
  exact K M2 S2 n2 s2
theorem lc_capitals {N i : Nat} {F : Nat → Int32} (S : Sim M) (h6 : i + 6 ≤ N) (hN : N ≤ 3072) (K : LK N F i M Q) : Wp (some (N, F)) 8 272 1084 [(0, .ref 1), (1, .ref 64), (2, .ref 126), (3, .int (nI i))] [] M Q := by
  have X := S.1.2.1
  have v1 : vin (nI i + 1) N = true := vlaw (j := 1) (by omega) hN
  have v2 : vin (nI i + 2) N = true := vlaw (j := 2) (by omega) hN
  rw [k272_1084 rfl v1 v2, k272_1095 (x_K64 X)]
  refine p_capitals S (Alk_int (by decide +kernel) (by decide +kernel) (fun z M1 h9 R => ?_))
  simp only [oN]
  rw [k272_1098 rfl v1 v2, k272_1109 h9]
  refine R _ (fun M2 S2 n2 s2 => ?_)
  simp only [oM]
  rw [k272_1112, if_pos rfl]
  exact K M2 S2 n2 s2
theorem lc_drawn {N i : Nat} {F : Nat → Int32} (S : Sim M) (h6 : i + 6 ≤ N) (hN : N ≤ 3072) (K : LK N F i M Q) : Wp (some (N, F)) 8 272 1117 [(0, .ref 1), (1, .ref 64), (2, .ref 126), (3, .int (nI i))] [] M Q := by
  have X := S.1.2.1
  have v1 : vin (nI i + 1) N = true := vlaw (j := 1) (by omega) hN
  have v2 : vin (nI i + 2) N = true := vlaw (j := 2) (by omega) hN
  rw [k272_1117 rfl v1 v2, k272_1128 (x_K64 X)]
  refine p_drawn S (Alk_int (by decide +kernel) (by decide +kernel) (fun z M1 h9 R => ?_))
  simp only [oN]
  rw [k272_1131 rfl v1 v2, k272_1142 h9]
  refine R _ (fun M2 S2 n2 s2 => ?_)
  simp only [oM]
  rw [k272_1145, if_pos rfl]
  exact K M2 S2 n2 s2
theorem lc_image {N i : Nat} {F : Nat → Int32} (S : Sim M) (h6 : i + 6 ≤ N) (hN : N ≤ 3072) (K : LK N F i M Q) : Wp (some (N, F)) 8 272 1150 [(0, .ref 1), (1, .ref 64), (2, .ref 126), (3, .int (nI i))] [] M Q := by
  have X := S.1.2.1
  have v1 : vin (nI i + 1) N = true := vlaw (j := 1) (by omega) hN
  rw [k272_1150 rfl v1, k272_1156 (x_K64 X)]
  refine p_image S (Alk_int (by decide +kernel) (by decide +kernel) (fun z M1 h9 R => ?_))
  simp only [oN]
  rw [k272_1159 rfl v1, k272_1165 h9]
  refine R _ (fun M2 S2 n2 s2 => ?_)
  simp only [oM]
  rw [k272_1168, if_pos rfl]
  exact K M2 S2 n2 s2
theorem lc_back {N i : Nat} {F : Nat → Int32} (S : Sim M) (h6 : i + 6 ≤ N) (hN : N ≤ 3072) (K : LK N F i M Q) : Wp (some (N, F)) 8 272 1173 [(0, .ref 1), (1, .ref 64), (2, .ref 126), (3, .int (nI i))] [] M Q := by
  have X := S.1.2.1
  have v1 : vin (nI i + 1) N = true := vlaw (j := 1) (by omega) hN
  rw [k272_1173 rfl v1, k272_1179 (x_K64 X)]
  refine p_back S (Alk_int (by decide +kernel) (by decide +kernel) (fun z M1 h9 R => ?_))
  simp only [oN]
  rw [k272_1182 rfl v1, k272_1188 h9]
  refine R _ (fun M2 S2 n2 s2 => ?_)
  simp only [oM]
  rw [k272_1191, if_pos rfl]
  exact K M2 S2 n2 s2
theorem lc_count {N i : Nat} {F : Nat → Int32} (S : Sim M) (h6 : i + 6 ≤ N) (hN : N ≤ 3072) (K : LK N F i M Q) : Wp (some (N, F)) 8 272 1196 [(0, .ref 1), (1, .ref 64), (2, .ref 126), (3, .int (nI i))] [] M Q := by
  have X := S.1.2.1
  have v1 : vin (nI i + 1) N = true := vlaw (j := 1) (by omega) hN
  rw [k272_1196 rfl v1, k272_1202 (x_K64 X)]
  refine p_count S (Alk_int (by decide +kernel) (by decide +kernel) (fun z M1 h9 R => ?_))
  simp only [oN]
  rw [k272_1205 rfl v1, k272_1211 h9]
  refine R _ (fun M2 S2 n2 s2 => ?_)
  simp only [oM]
  rw [k272_1214, if_pos rfl]
  exact K M2 S2 n2 s2
theorem lc_status {N i : Nat} {F : Nat → Int32} (S : Sim M) (h6 : i + 6 ≤ N) (hN : N ≤ 3072) (K : LK N F i M Q) : Wp (some (N, F)) 8 272 1219 [(0, .ref 1), (1, .ref 64), (2, .ref 126), (3, .int (nI i))] [] M Q := by
  have X := S.1.2.1
  rw [k272_1219, k272_1220 (x_K64 X)]
  refine p_status S (Alk_int (by decide +kernel) (by decide +kernel) (fun z M1 h9 R => ?_))
  simp only [oN]
  rw [k272_1223, k272_1224 h9]
  refine R _ (fun M2 S2 n2 s2 => ?_)
  simp only [oM]
  rw [k272_1227, if_pos rfl]
  exact K M2 S2 n2 s2
