theorem kMx_ok (mi : Nat) (h : mi < 273) : kmx mi (kMx.getD mi (0, 0, 0, 0, 0)) = true := by
  have key : ∀ a : Nat, (List.range 3).all (fun j => decide (273 ≤ a + j) || kmx (a + j) (kMx.getD (a + j) (0, 0, 0, 0, 0))) = true → a ≤ mi → mi < a + 3 → kmx mi (kMx.getD mi (0, 0, 0, 0, 0)) = true := by
    intro a h1 h2 h3
    have h4 := List.all_eq_true.mp h1 (mi - a) (List.mem_range.mpr (by omega))
    rw [show a + (mi - a) = mi by omega] at h4
    simpa [Nat.not_le.mpr h] using h4
  rcases Nat.lt_or_ge mi 135 with q | q
  · rcases Nat.lt_or_ge mi 66 with q | q
    · rcases Nat.lt_or_ge mi 33 with q | q
      · rcases Nat.lt_or_ge mi 15 with q | q
        · rcases Nat.lt_or_ge mi 6 with q | q
          · rcases Nat.lt_or_ge mi 3 with q | q
            · exact key 0 kMx_0 (by omega) (by omega)
            · exact key 3 kMx_1 (by omega) (by omega)
          · rcases Nat.lt_or_ge mi 9 with q | q
            · exact key 6 kMx_2 (by omega) (by omega)
            · rcases Nat.lt_or_ge mi 12 with q | q
              · exact key 9 kMx_3 (by omega) (by omega)
              · exact key 12 kMx_4 (by omega) (by omega)
        · rcases Nat.lt_or_ge mi 24 with q | q
          · rcases Nat.lt_or_ge mi 18 with q | q
            · exact key 15 kMx_5 (by omega) (by omega)
            · rcases Nat.lt_or_ge mi 21 with q | q
              · exact key 18 kMx_6 (by omega) (by omega)
              · exact key 21 kMx_7 (by omega) (by omega)
          · rcases Nat.lt_or_ge mi 27 with q | q
            · exact key 24 kMx_8 (by omega) (by omega)
            · rcases Nat.lt_or_ge mi 30 with q | q
              · exact key 27 kMx_9 (by omega) (by omega)
              · exact key 30 kMx_10 (by omega) (by omega)
      · rcases Nat.lt_or_ge mi 48 with q | q
        · rcases Nat.lt_or_ge mi 39 with q | q
          · rcases Nat.lt_or_ge mi 36 with q | q
            · exact key 33 kMx_11 (by omega) (by omega)
            · exact key 36 kMx_12 (by omega) (by omega)
          · rcases Nat.lt_or_ge mi 42 with q | q
            · exact key 39 kMx_13 (by omega) (by omega)
            · rcases Nat.lt_or_ge mi 45 with q | q
              · exact key 42 kMx_14 (by omega) (by omega)
              · exact key 45 kMx_15 (by omega) (by omega)
        · rcases Nat.lt_or_ge mi 57 with q | q
          · rcases Nat.lt_or_ge mi 51 with q | q
            · exact key 48 kMx_16 (by omega) (by omega)
            · rcases Nat.lt_or_ge mi 54 with q | q
              · exact key 51 kMx_17 (by omega) (by omega)
              · exact key 54 kMx_18 (by omega) (by omega)
          · rcases Nat.lt_or_ge mi 60 with q | q
            · exact key 57 kMx_19 (by omega) (by omega)
            · rcases Nat.lt_or_ge mi 63 with q | q
              · exact key 60 kMx_20 (by omega) (by omega)
              · exact key 63 kMx_21 (by omega) (by omega)
    · rcases Nat.lt_or_ge mi 99 with q | q
      · rcases Nat.lt_or_ge mi 81 with q | q
        · rcases Nat.lt_or_ge mi 72 with q | q
          · rcases Nat.lt_or_ge mi 69 with q | q
            · exact key 66 kMx_22 (by omega) (by omega)
            · exact key 69 kMx_23 (by omega) (by omega)
          · rcases Nat.lt_or_ge mi 75 with q | q
            · exact key 72 kMx_24 (by omega) (by omega)
            · rcases Nat.lt_or_ge mi 78 with q | q
              · exact key 75 kMx_25 (by omega) (by omega)
              · exact key 78 kMx_26 (by omega) (by omega)
        · rcases Nat.lt_or_ge mi 90 with q | q
          · rcases Nat.lt_or_ge mi 84 with q | q
            · exact key 81 kMx_27 (by omega) (by omega)
            · rcases Nat.lt_or_ge mi 87 with q | q
              · exact key 84 kMx_28 (by omega) (by omega)
              · exact key 87 kMx_29 (by omega) (by omega)
          · rcases Nat.lt_or_ge mi 93 with q | q
            · exact key 90 kMx_30 (by omega) (by omega)
            · rcases Nat.lt_or_ge mi 96 with q | q
              · exact key 93 kMx_31 (by omega) (by omega)
              · exact key 96 kMx_32 (by omega) (by omega)
      · rcases Nat.lt_or_ge mi 117 with q | q
        · rcases Nat.lt_or_ge mi 108 with q | q
          · rcases Nat.lt_or_ge mi 102 with q | q
            · exact key 99 kMx_33 (by omega) (by omega)
            · rcases Nat.lt_or_ge mi 105 with q | q
              · exact key 102 kMx_34 (by omega) (by omega)
              · exact key 105 kMx_35 (by omega) (by omega)
          · rcases Nat.lt_or_ge mi 111 with q | q
            · exact key 108 kMx_36 (by omega) (by omega)
            · rcases Nat.lt_or_ge mi 114 with q | q
              · exact key 111 kMx_37 (by omega) (by omega)
              · exact key 114 kMx_38 (by omega) (by omega)
        · rcases Nat.lt_or_ge mi 126 with q | q
          · rcases Nat.lt_or_ge mi 120 with q | q
            · exact key 117 kMx_39 (by omega) (by omega)
            · rcases Nat.lt_or_ge mi 123 with q | q
              · exact key 120 kMx_40 (by omega) (by omega)
              · exact key 123 kMx_41 (by omega) (by omega)
          · rcases Nat.lt_or_ge mi 129 with q | q
            · exact key 126 kMx_42 (by omega) (by omega)
            · rcases Nat.lt_or_ge mi 132 with q | q
              · exact key 129 kMx_43 (by omega) (by omega)
              · exact key 132 kMx_44 (by omega) (by omega)
  · rcases Nat.lt_or_ge mi 204 with q | q
    · rcases Nat.lt_or_ge mi 168 with q | q
      · rcases Nat.lt_or_ge mi 150 with q | q
        · rcases Nat.lt_or_ge mi 141 with q | q
          · rcases Nat.lt_or_ge mi 138 with q | q
            · exact key 135 kMx_45 (by omega) (by omega)
            · exact key 138 kMx_46 (by omega) (by omega)
          · rcases Nat.lt_or_ge mi 144 with q | q
            · exact key 141 kMx_47 (by omega) (by omega)
            · rcases Nat.lt_or_ge mi 147 with q | q
              · exact key 144 kMx_48 (by omega) (by omega)
              · exact key 147 kMx_49 (by omega) (by omega)
        · rcases Nat.lt_or_ge mi 159 with q | q
          · rcases Nat.lt_or_ge mi 153 with q | q
            · exact key 150 kMx_50 (by omega) (by omega)
            · rcases Nat.lt_or_ge mi 156 with q | q
              · exact key 153 kMx_51 (by omega) (by omega)
              · exact key 156 kMx_52 (by omega) (by omega)
          · rcases Nat.lt_or_ge mi 162 with q | q
            · exact key 159 kMx_53 (by omega) (by omega)
            · rcases Nat.lt_or_ge mi 165 with q | q
              · exact key 162 kMx_54 (by omega) (by omega)
              · exact key 165 kMx_55 (by omega) (by omega)
      · rcases Nat.lt_or_ge mi 186 with q | q
        · rcases Nat.lt_or_ge mi 177 with q | q
          · rcases Nat.lt_or_ge mi 171 with q | q
            · exact key 168 kMx_56 (by omega) (by omega)
            · rcases Nat.lt_or_ge mi 174 with q | q
              · exact key 171 kMx_57 (by omega) (by omega)
              · exact key 174 kMx_58 (by omega) (by omega)
          · rcases Nat.lt_or_ge mi 180 with q | q
            · exact key 177 kMx_59 (by omega) (by omega)
            · rcases Nat.lt_or_ge mi 183 with q | q
              · exact key 180 kMx_60 (by omega) (by omega)
              · exact key 183 kMx_61 (by omega) (by omega)
        · rcases Nat.lt_or_ge mi 195 with q | q
          · rcases Nat.lt_or_ge mi 189 with q | q
            · exact key 186 kMx_62 (by omega) (by omega)
            · rcases Nat.lt_or_ge mi 192 with q | q
              · exact key 189 kMx_63 (by omega) (by omega)
              · exact key 192 kMx_64 (by omega) (by omega)
          · rcases Nat.lt_or_ge mi 198 with q | q
            · exact key 195 kMx_65 (by omega) (by omega)
            · rcases Nat.lt_or_ge mi 201 with q | q
              · exact key 198 kMx_66 (by omega) (by omega)
              · exact key 201 kMx_67 (by omega) (by omega)
    · rcases Nat.lt_or_ge mi 237 with q | q
      · rcases Nat.lt_or_ge mi 219 with q | q
        · rcases Nat.lt_or_ge mi 210 with q | q
          · rcases Nat.lt_or_ge mi 207 with q | q
            · exact key 204 kMx_68 (by omega) (by omega)
            · exact key 207 kMx_69 (by omega) (by omega)
          · rcases Nat.lt_or_ge mi 213 with q | q
            · exact key 210 kMx_70 (by omega) (by omega)
            · rcases Nat.lt_or_ge mi 216 with q | q
              · exact key 213 kMx_71 (by omega) (by omega)
              · exact key 216 kMx_72 (by omega) (by omega)
        · rcases Nat.lt_or_ge mi 228 with q | q
          · rcases Nat.lt_or_ge mi 222 with q | q
            · exact key 219 kMx_73 (by omega) (by omega)
            · rcases Nat.lt_or_ge mi 225 with q | q
              · exact key 222 kMx_74 (by omega) (by omega)
              · exact key 225 kMx_75 (by omega) (by omega)
          · rcases Nat.lt_or_ge mi 231 with q | q
            · exact key 228 kMx_76 (by omega) (by omega)
            · rcases Nat.lt_or_ge mi 234 with q | q
              · exact key 231 kMx_77 (by omega) (by omega)
              · exact key 234 kMx_78 (by omega) (by omega)
      · rcases Nat.lt_or_ge mi 255 with q | q
        · rcases Nat.lt_or_ge mi 246 with q | q
          · rcases Nat.lt_or_ge mi 240 with q | q
            · exact key 237 kMx_79 (by omega) (by omega)
            · rcases Nat.lt_or_ge mi 243 with q | q
              · exact key 240 kMx_80 (by omega) (by omega)
              · exact key 243 kMx_81 (by omega) (by omega)
          · rcases Nat.lt_or_ge mi 249 with q | q
            · exact key 246 kMx_82 (by omega) (by omega)
            · rcases Nat.lt_or_ge mi 252 with q | q
              · exact key 249 kMx_83 (by omega) (by omega)
              · exact key 252 kMx_84 (by omega) (by omega)
        · rcases Nat.lt_or_ge mi 264 with q | q
          · rcases Nat.lt_or_ge mi 258 with q | q
            · exact key 255 kMx_85 (by omega) (by omega)
            · rcases Nat.lt_or_ge mi 261 with q | q
              · exact key 258 kMx_86 (by omega) (by omega)
              · exact key 261 kMx_87 (by omega) (by omega)
          · rcases Nat.lt_or_ge mi 267 with q | q
            · exact key 264 kMx_88 (by omega) (by omega)
            · rcases Nat.lt_or_ge mi 270 with q | q
              · exact key 267 kMx_89 (by omega) (by omega)
              · exact key 270 kMx_90 (by omega) (by omega)
theorem kMx_call : kKM.all (fun e => (decide (6000 ≤ e.2.2.2) || (decide (e.2.2.2 % 1000 < 272) && (match e.2.2.2 / 1000 with
  | 0 => (kMx.getD (e.2.2.2 % 1000) (0, 0, 0, 0, 0)).2.2.1 != 99999 && (kMx.getD (e.2.2.2 % 1000) (0, 0, 0, 0, 0)).2.2.2.1 != 99999 && decide (kOwn (e.2.2.2 % 1000) < 10) && decide ((kMx.getD (e.2.2.2 % 1000) (0, 0, 0, 0, 0)).2.2.2.2 = 99999)
  | 1 => (kMx.getD (e.2.2.2 % 1000) (0, 0, 0, 0, 0)).2.2.1 != 99999 && (kMx.getD (e.2.2.2 % 1000) (0, 0, 0, 0, 0)).2.2.2.1 != 99999 && decide (kOwn (e.2.2.2 % 1000) < 10) && decide ((kMx.getD (e.2.2.2 % 1000) (0, 0, 0, 0, 0)).2.2.2.2 = 99999)
  | 2 => (kMx.getD (e.2.2.2 % 1000) (0, 0, 0, 0, 0)).2.2.2.2 != 99999
  | 3 => (kMx.getD (e.2.2.2 % 1000) (0, 0, 0, 0, 0)).2.2.2.2 != 99999
  | 4 => (kMx.getD (e.2.2.2 % 1000) (0, 0, 0, 0, 0)).2.2.1 != 99999 && decide ((kM (e.2.2.2 % 1000)).1.name = "<init>") && decide ((kM (e.2.2.2 % 1000)).2.2.2.1 = none) && decide ((kMx.getD (e.2.2.2 % 1000) (0, 0, 0, 0, 0)).2.2.2.2 = 99999)
  | 5 => (kMx.getD (e.2.2.2 % 1000) (0, 0, 0, 0, 0)).2.2.1 != 99999 && decide ((kM (e.2.2.2 % 1000)).1.name = "<init>") && decide ((kM (e.2.2.2 % 1000)).2.2.2.1 = none) && decide ((kMx.getD (e.2.2.2 % 1000) (0, 0, 0, 0, 0)).2.2.2.2 = 99999)
  | _ => false)))) = true := by decide +kernel
theorem kNest_in : ∀ w ∈ kNest, w ∈ lw_tbl := by decide +kernel
theorem kNest_all : kKM.all (fun e => !(decide (e.2.2.2 / 1000 = 1 ∨ e.2.2.2 / 1000 = 3 ∨ e.2.2.2 / 1000 = 5)) || decide (kwM e ∈ kNest)) = true := by decide +kernel
theorem kNest_form : ∀ w ∈ kNest, ∃ a i y h, w = .methodLinkNest a i y h := by
  intro w hw
  simp only [kNest, List.mem_cons, List.not_mem_nil, or_false] at hw
  rcases hw with rfl | rfl | rfl | rfl | rfl | rfl | rfl | rfl | rfl | rfl | rfl | rfl | rfl | rfl | rfl | rfl | rfl | rfl | rfl | rfl | rfl | rfl | rfl | rfl | rfl <;> exact ⟨_, _, _, _, rfl⟩
theorem kcls_at {ci : Nat} (h : ci < 10) : vwCl[ci]? = some (kcls ci) := by
  match ci, h with
  | 0, _ => rfl
  | 1, _ => rfl
  | 2, _ => rfl
  | 3, _ => rfl
  | 4, _ => rfl
  | 5, _ => rfl
  | 6, _ => rfl
  | 7, _ => rfl
  | 8, _ => rfl
  | 9, _ => rfl
  | n + 10, h => omega
theorem kOn_cls {ci : Nat} (h : ci < 10) : kOn ci = (kcls ci).1 := by
  match ci, h with
  | 0, _ => rfl
  | 1, _ => rfl
  | 2, _ => rfl
  | 3, _ => rfl
  | 4, _ => rfl
  | 5, _ => rfl
  | 6, _ => rfl
  | 7, _ => rfl
  | 8, _ => rfl
  | 9, _ => rfl
  | n + 10, h => omega
def ktyok (t : Nat) (ty : FieldType) : Bool := match t with
  | 0 => decide (ty = .int) || decide (ty = .boolean)
  | 1 => decide (ty = .long)
  | 2 => (match ty with | .object _ => true | .array _ => true | _ => false)
  | _ => false
def kclk (ci : Nat) : Bool := decide ((kcls ci).2.2 = kNF ci) && (List.range (kNF ci)).all (fun k => decide (((kcls ci).2.1 k).1 = (kcls ci).1) && decide (parseFieldDescriptor ((kcls ci).2.1 k).2.2.1 = some (kft ci k)) && decide (((kcls ci).2.1 k).2.2.2 = kfin ci k) && ktyok (kty ci k) (kft ci k))
theorem kclk_ok : (List.range 10).all kclk = true := by decide +kernel
theorem kcls_ok (ci : Nat) (h : ci < 10) (k : Nat) (hk : k < kNF ci) : (kcls ci).2.2 = kNF ci ∧ ((kcls ci).2.1 k).1 = (kcls ci).1 ∧ parseFieldDescriptor ((kcls ci).2.1 k).2.2.1 = some (kft ci k) ∧ ((kcls ci).2.1 k).2.2.2 = kfin ci k ∧ ktyok (kty ci k) (kft ci k) = true := by
  have h1 := List.all_eq_true.mp kclk_ok ci (List.mem_range.mpr h)
  unfold kclk at h1
  rw [Bool.and_eq_true] at h1
  have h2 := List.all_eq_true.mp h1.2 k (List.mem_range.mpr hk)
  simp only [Bool.and_eq_true, decide_eq_true_eq] at h2
  exact ⟨of_decide_eq_true h1.1, h2.1.1.1, h2.1.1.2, h2.1.2, h2.2⟩
theorem kcls_NF (ci : Nat) (h : ci < 10) : (kcls ci).2.2 = kNF ci := by
  have h1 := List.all_eq_true.mp kclk_ok ci (List.mem_range.mpr h)
  unfold kclk at h1
  rw [Bool.and_eq_true] at h1
  exact of_decide_eq_true h1.1
theorem kcls_wsk : (List.range 10).all (fun ci => (u_ws (kcls ci).1 (kcls ci).2.1 (kcls ci).2.2).all (fun w => decide (w ∈ tables_1) && goodWord w)) = true := by decide +kernel
theorem kcls_ws (ci : Nat) (h : ci < 10) : ∀ w ∈ u_ws (kcls ci).1 (kcls ci).2.1 (kcls ci).2.2, w ∈ lwG := by
  intro w hw
  have h1 := List.all_eq_true.mp (List.all_eq_true.mp kcls_wsk ci (List.mem_range.mpr h)) w hw
  simp only [Bool.and_eq_true, decide_eq_true_eq] at h1
  exact List.mem_filter.mpr ⟨List.mem_append_right _ h1.1, h1.2⟩
theorem kcls_nm (ci : Nat) (h : ci < 10) : ∀ a, a < (kcls ci).2.2 → ∀ b, b < (kcls ci).2.2 → a ≠ b → ((kcls ci).2.1 a).2.1 ≠ ((kcls ci).2.1 b).2.1 := by
  match ci, h with
  | 0, _ => exact nmX0
  | 1, _ => exact nmX1
  | 2, _ => exact nmX2
  | 3, _ => exact nmX3
  | 4, _ => exact nmX4
  | 5, _ => exact nmX5
  | 6, _ => exact nmX6
  | 7, _ => exact nmX7
  | 8, _ => exact nmX8
  | 9, _ => exact nmX9
  | n + 10, h => omega
theorem kcls_insk : (List.range 10).all (fun ci => decide (Jvm.Cond.instantiable (kcls ci).1 (kNF ci) ∈ tables_1) && decide (Jvm.Cond.initialized (kcls ci).1 ∈ tables_1)) = true := by decide +kernel
theorem kcls_ins (ci : Nat) (h : ci < 10) : Jvm.Cond.instantiable (kcls ci).1 (kNF ci) ∈ lwG ∧ Jvm.Cond.initialized (kcls ci).1 ∈ lwG := by
  have h1 := List.all_eq_true.mp kcls_insk ci (List.mem_range.mpr h)
  simp only [Bool.and_eq_true, decide_eq_true_eq] at h1
  exact ⟨List.mem_filter.mpr ⟨List.mem_append_right _ h1.1, rfl⟩, List.mem_filter.mpr ⟨List.mem_append_right _ h1.2, rfl⟩⟩
theorem kw_arr : Jvm.Cond.arrayClass .int ∈ lwG ∧ Jvm.Cond.arrayClass .boolean ∈ lwG ∧ Jvm.Cond.arrayClass .long ∈ lwG := ⟨lwG_of (i := 209) (by decide +kernel) rfl, lwG_of (i := 228) (by decide +kernel) rfl, lwG_of (i := 329) (by decide +kernel) rfl⟩
