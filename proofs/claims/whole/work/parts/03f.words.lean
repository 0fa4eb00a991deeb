theorem kMx_ok (mi : Nat) (h : mi < 273) : kmx mi (kMx.getD mi (0, 0, 0, 0, 0)) = true := by
  have key : ∀ a : Nat, (List.range 14).all (fun j => decide (273 ≤ a + j) || kmx (a + j) (kMx.getD (a + j) (0, 0, 0, 0, 0))) = true → a ≤ mi → mi < a + 14 → kmx mi (kMx.getD mi (0, 0, 0, 0, 0)) = true := by
    intro a h1 h2 h3
    have h4 := List.all_eq_true.mp h1 (mi - a) (List.mem_range.mpr (by omega))
    rw [show a + (mi - a) = mi by omega] at h4
    simpa [Nat.not_le.mpr h] using h4
  rcases Nat.lt_or_ge mi 14 with q0 | q0
  · exact key 0 kMx_0 (by omega) (by omega)
  rcases Nat.lt_or_ge mi 28 with q1 | q1
  · exact key 14 kMx_1 (by omega) (by omega)
  rcases Nat.lt_or_ge mi 42 with q2 | q2
  · exact key 28 kMx_2 (by omega) (by omega)
  rcases Nat.lt_or_ge mi 56 with q3 | q3
  · exact key 42 kMx_3 (by omega) (by omega)
  rcases Nat.lt_or_ge mi 70 with q4 | q4
  · exact key 56 kMx_4 (by omega) (by omega)
  rcases Nat.lt_or_ge mi 84 with q5 | q5
  · exact key 70 kMx_5 (by omega) (by omega)
  rcases Nat.lt_or_ge mi 98 with q6 | q6
  · exact key 84 kMx_6 (by omega) (by omega)
  rcases Nat.lt_or_ge mi 112 with q7 | q7
  · exact key 98 kMx_7 (by omega) (by omega)
  rcases Nat.lt_or_ge mi 126 with q8 | q8
  · exact key 112 kMx_8 (by omega) (by omega)
  rcases Nat.lt_or_ge mi 140 with q9 | q9
  · exact key 126 kMx_9 (by omega) (by omega)
  rcases Nat.lt_or_ge mi 154 with q10 | q10
  · exact key 140 kMx_10 (by omega) (by omega)
  rcases Nat.lt_or_ge mi 168 with q11 | q11
  · exact key 154 kMx_11 (by omega) (by omega)
  rcases Nat.lt_or_ge mi 182 with q12 | q12
  · exact key 168 kMx_12 (by omega) (by omega)
  rcases Nat.lt_or_ge mi 196 with q13 | q13
  · exact key 182 kMx_13 (by omega) (by omega)
  rcases Nat.lt_or_ge mi 210 with q14 | q14
  · exact key 196 kMx_14 (by omega) (by omega)
  rcases Nat.lt_or_ge mi 224 with q15 | q15
  · exact key 210 kMx_15 (by omega) (by omega)
  rcases Nat.lt_or_ge mi 238 with q16 | q16
  · exact key 224 kMx_16 (by omega) (by omega)
  rcases Nat.lt_or_ge mi 252 with q17 | q17
  · exact key 238 kMx_17 (by omega) (by omega)
  rcases Nat.lt_or_ge mi 266 with q18 | q18
  · exact key 252 kMx_18 (by omega) (by omega)
  rcases Nat.lt_or_ge mi 280 with q19 | q19
  · exact key 266 kMx_19 (by omega) (by omega)
  omega
theorem kMx_call : kKM.all (fun e => (decide (6000 ≤ e.2.2.2) || (decide (e.2.2.2 % 1000 < 272) && (match e.2.2.2 / 1000 with
  | 0 => (kMx.getD (e.2.2.2 % 1000) (0, 0, 0, 0, 0)).2.2.1 != 99999 && (kMx.getD (e.2.2.2 % 1000) (0, 0, 0, 0, 0)).2.2.2.1 != 99999 && decide (kOwn (e.2.2.2 % 1000) < 10) && decide ((kMx.getD (e.2.2.2 % 1000) (0, 0, 0, 0, 0)).2.2.2.2 = 99999)
  | 1 => (kMx.getD (e.2.2.2 % 1000) (0, 0, 0, 0, 0)).2.2.1 != 99999 && (kMx.getD (e.2.2.2 % 1000) (0, 0, 0, 0, 0)).2.2.2.1 != 99999 && decide (kOwn (e.2.2.2 % 1000) < 10) && decide ((kMx.getD (e.2.2.2 % 1000) (0, 0, 0, 0, 0)).2.2.2.2 = 99999)
  | 2 => (kMx.getD (e.2.2.2 % 1000) (0, 0, 0, 0, 0)).2.2.2.2 != 99999
  | 3 => (kMx.getD (e.2.2.2 % 1000) (0, 0, 0, 0, 0)).2.2.2.2 != 99999
  | 4 => (kMx.getD (e.2.2.2 % 1000) (0, 0, 0, 0, 0)).2.2.1 != 99999 && decide ((kM (e.2.2.2 % 1000)).1.name = "<init>") && decide ((kM (e.2.2.2 % 1000)).2.2.2.1 = none) && decide ((kMx.getD (e.2.2.2 % 1000) (0, 0, 0, 0, 0)).2.2.2.2 = 99999)
  | 5 => (kMx.getD (e.2.2.2 % 1000) (0, 0, 0, 0, 0)).2.2.1 != 99999 && decide ((kM (e.2.2.2 % 1000)).1.name = "<init>") && decide ((kM (e.2.2.2 % 1000)).2.2.2.1 = none) && decide ((kMx.getD (e.2.2.2 % 1000) (0, 0, 0, 0, 0)).2.2.2.2 = 99999)
  | _ => false)))) = true := by decide +kernel
theorem kNest_in : ∀ w ∈ kNest, w ∈ lw_tbl := by decide +kernel
theorem kNest_all : kKM.all (fun e => !(decide (e.2.2.2 / 1000 = 1 ∨ e.2.2.2 / 1000 = 3 ∨ e.2.2.2 / 1000 = 5)) || decide (kwM e ∈ kNest)) = true := by decide +kernel
theorem kNest_form : ∀ w ∈ kNest, ∃ a i y h, w = .methodLinkNest a i y h := by
  intro w hw
  simp only [kNest, List.mem_cons, List.not_mem_nil, or_false] at hw
  rcases hw with rfl | rfl | rfl | rfl | rfl | rfl | rfl | rfl | rfl | rfl | rfl | rfl | rfl | rfl | rfl | rfl | rfl | rfl | rfl | rfl | rfl | rfl | rfl | rfl | rfl <;> exact ⟨_, _, _, _, rfl⟩
theorem kcls_at {ci : Nat} (h : ci < 10) : vwCl[ci]? = some (kcls ci) := by
  match ci, h with
  | 0, _ => rfl
  | 1, _ => rfl
  | 2, _ => rfl
  | 3, _ => rfl
  | 4, _ => rfl
  | 5, _ => rfl
  | 6, _ => rfl
  | 7, _ => rfl
  | 8, _ => rfl
  | 9, _ => rfl
  | n + 10, h => omega
theorem kOn_cls {ci : Nat} (h : ci < 10) : kOn ci = (kcls ci).1 := by
  match ci, h with
  | 0, _ => rfl
  | 1, _ => rfl
  | 2, _ => rfl
  | 3, _ => rfl
  | 4, _ => rfl
  | 5, _ => rfl
  | 6, _ => rfl
  | 7, _ => rfl
  | 8, _ => rfl
  | 9, _ => rfl
  | n + 10, h => omega
def ktyok (t : Nat) (ty : FieldType) : Bool := match t with
  | 0 => decide (ty = .int) || decide (ty = .boolean)
  | 1 => decide (ty = .long)
  | 2 => (match ty with | .object _ => true | .array _ => true | _ => false)
  | _ => false
def kclk (ci : Nat) : Bool := decide ((kcls ci).2.2 = kNF ci) && (List.range (kNF ci)).all (fun k => decide (((kcls ci).2.1 k).1 = (kcls ci).1) && decide (parseFieldDescriptor ((kcls ci).2.1 k).2.2.1 = some (kft ci k)) && decide (((kcls ci).2.1 k).2.2.2 = kfin ci k) && ktyok (kty ci k) (kft ci k))
theorem kclk_ok : (List.range 10).all kclk = true := by decide +kernel
theorem kcls_ok (ci : Nat) (h : ci < 10) (k : Nat) (hk : k < kNF ci) : (kcls ci).2.2 = kNF ci ∧ ((kcls ci).2.1 k).1 = (kcls ci).1 ∧ parseFieldDescriptor ((kcls ci).2.1 k).2.2.1 = some (kft ci k) ∧ ((kcls ci).2.1 k).2.2.2 = kfin ci k ∧ ktyok (kty ci k) (kft ci k) = true := by
  have h1 := List.all_eq_true.mp kclk_ok ci (List.mem_range.mpr h)
  unfold kclk at h1
  rw [Bool.and_eq_true] at h1
  have h2 := List.all_eq_true.mp h1.2 k (List.mem_range.mpr hk)
  simp only [Bool.and_eq_true, decide_eq_true_eq] at h2
  exact ⟨of_decide_eq_true h1.1, h2.1.1.1, h2.1.1.2, h2.1.2, h2.2⟩
theorem kcls_NF (ci : Nat) (h : ci < 10) : (kcls ci).2.2 = kNF ci := by
  have h1 := List.all_eq_true.mp kclk_ok ci (List.mem_range.mpr h)
  unfold kclk at h1
  rw [Bool.and_eq_true] at h1
  exact of_decide_eq_true h1.1
theorem kcls_wsk : (List.range 10).all (fun ci => (u_ws (kcls ci).1 (kcls ci).2.1 (kcls ci).2.2).all (fun w => decide (w ∈ tables_1) && goodWord w)) = true := by decide +kernel
theorem kcls_ws (ci : Nat) (h : ci < 10) : ∀ w ∈ u_ws (kcls ci).1 (kcls ci).2.1 (kcls ci).2.2, w ∈ lwG := by
  intro w hw
  have h1 := List.all_eq_true.mp (List.all_eq_true.mp kcls_wsk ci (List.mem_range.mpr h)) w hw
  simp only [Bool.and_eq_true, decide_eq_true_eq] at h1
  exact List.mem_filter.mpr ⟨List.mem_append_right _ h1.1, h1.2⟩
theorem kcls_nm (ci : Nat) (h : ci < 10) : ∀ a, a < (kcls ci).2.2 → ∀ b, b < (kcls ci).2.2 → a ≠ b → ((kcls ci).2.1 a).2.1 ≠ ((kcls ci).2.1 b).2.1 := by
  match ci, h with
  | 0, _ => exact nmX0
  | 1, _ => exact nmX1
  | 2, _ => exact nmX2
  | 3, _ => exact nmX3
  | 4, _ => exact nmX4
  | 5, _ => exact nmX5
  | 6, _ => exact nmX6
  | 7, _ => exact nmX7
  | 8, _ => exact nmX8
  | 9, _ => exact nmX9
  | n + 10, h => omega
theorem kcls_insk : (List.range 10).all (fun ci => decide (Jvm.Cond.instantiable (kcls ci).1 (kNF ci) ∈ tables_1) && decide (Jvm.Cond.initialized (kcls ci).1 ∈ tables_1)) = true := by decide +kernel
theorem kcls_ins (ci : Nat) (h : ci < 10) : Jvm.Cond.instantiable (kcls ci).1 (kNF ci) ∈ lwG ∧ Jvm.Cond.initialized (kcls ci).1 ∈ lwG := by
  have h1 := List.all_eq_true.mp kcls_insk ci (List.mem_range.mpr h)
  simp only [Bool.and_eq_true, decide_eq_true_eq] at h1
  exact ⟨List.mem_filter.mpr ⟨List.mem_append_right _ h1.1, rfl⟩, List.mem_filter.mpr ⟨List.mem_append_right _ h1.2, rfl⟩⟩
theorem kw_arr : Jvm.Cond.arrayClass .int ∈ lwG ∧ Jvm.Cond.arrayClass .boolean ∈ lwG ∧ Jvm.Cond.arrayClass .long ∈ lwG := ⟨lwG_of (i := 209) (by decide +kernel) rfl, lwG_of (i := 228) (by decide +kernel) rfl, lwG_of (i := 329) (by decide +kernel) rfl⟩
