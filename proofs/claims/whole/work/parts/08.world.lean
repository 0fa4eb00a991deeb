/-! the second machine's memory as the first one's cells: place 64 + k is the cell b + k; the places below 64 are cells from outside (ext): 1 the script, 2 .. 12 the texts written in the code -/
def kad (b : Nat) (ext : Nat → Nat) (k : Nat) : Nat := if k < 64 then ext k else b + (k - 64)
def krn (b : Nat) (ext : Nat → Nat) (v : Value) : Value := match v with
  | .ref k => .ref (kad b ext k)
  | v => v
def krq (b : Nat) (ext : Nat → Nat) (q : Nat) : Option Nat := if q = 0 then none else some (kad b ext q)
def kfs (M : hp) (a ci : Nat) : List Value := (List.range (kNF ci)).map (fun k => kfv M a ci k)
def kcell (dA : Nat → ClassId) (b : Nat) (ext : Nat → Nat) (M : hp) (a : Nat) : va_E :=
  if (hK M a).1 = 20 then .inl (dA 0, (hK M a).2, .inl (hI M a))
  else if (hK M a).1 = 21 then .inl (dA 1, (hK M a).2, .inr (.inl (hL M a)))
  else if (hK M a).1 = 22 then .inl (dA 2, (hK M a).2, .inl (hI M a))
  else if (hK M a).1 = 23 then .inl (dA 3, (hK M a).2, .inr (.inr (.inr (.inr (fun i => krq b ext (hR M a i))))))
  else if (hK M a).1 = 24 then .inl (dA 4, (hK M a).2, .inr (.inr (.inr (.inr (fun i => krq b ext (hR M a i))))))
  else .inr ((hK M a).1, (kfs M a (hK M a).1).map (krn b ext))
def wz (dA : Nat → ClassId) (b : Nat) (ext : Nat → Nat) (M : hp) : va_W := (List.range (hN M)).map (fun k => (b + k, kcell dA b ext M (64 + k)))
def hpOK (M : hp) : Prop := ∀ a : Nat, (a < 64 ∨ 64 + hN M ≤ a) → hK M a = (99, 0)
theorem kin {M : hp} (h : hpOK M) {a : Nat} (ha : (hK M a).1 < 99) : 64 ≤ a ∧ a < 64 + hN M := by
  refine ⟨?_, ?_⟩
  · apply Nat.le_of_not_lt
    intro q
    rw [h a (Or.inl q)] at ha
    exact absurd ha (by decide)
  · apply Nat.lt_of_not_le
    intro q
    rw [h a (Or.inr q)] at ha
    exact absurd ha (by decide)
theorem kad_hi {b : Nat} {ext : Nat → Nat} {a : Nat} (h : 64 ≤ a) : kad b ext a = b + (a - 64) := by
  unfold kad
  rw [if_neg (by omega)]
theorem wz_len (dA : Nat → ClassId) (b : Nat) (ext : Nat → Nat) (M : hp) : (wz dA b ext M).length = hN M := by simp [wz]
theorem wz_at {dA : Nat → ClassId} {b : Nat} {ext : Nat → Nat} {M : hp} {a : Nat} (h1 : 64 ≤ a) (h2 : a < 64 + hN M) : (wz dA b ext M)[a - 64]? = some (kad b ext a, kcell dA b ext M a) := by
  unfold wz
  rw [List.getElem?_map, List.getElem?_range (by omega), kad_hi h1]
  show some (b + (a - 64), kcell dA b ext M (64 + (a - 64))) = _
  rw [show 64 + (a - 64) = a by omega]
theorem wz_get {dA : Nat → ClassId} {b : Nat} {ext : Nat → Nat} {M : hp} {k : Nat} {q : Nat × va_E} (h : (wz dA b ext M)[k]? = some q) : k < hN M ∧ q = (b + k, kcell dA b ext M (64 + k)) := by
  have hk : k < (wz dA b ext M).length := (List.getElem?_eq_some_iff.mp h).1
  rw [wz_len] at hk
  unfold wz at h
  rw [List.getElem?_map, List.getElem?_range hk] at h
  exact ⟨hk, (Option.some.inj h).symm⟩
theorem wz_D {dA : Nat → ClassId} {b : Nat} {ext : Nat → Nat} {M : hp} : va_D (fun q : Nat => b ≤ q) (wz dA b ext M) := by
  refine ⟨fun i j p q hp hq e => ?_, fun k q hk => ?_⟩
  · obtain ⟨-, rfl⟩ := wz_get hp
    obtain ⟨-, rfl⟩ := wz_get hq
    have e : b + i = b + j := e
    omega
  · obtain ⟨-, rfl⟩ := wz_get hk
    exact Nat.le_add_right _ _
theorem wz_set {dA : Nat → ClassId} {b : Nat} {ext : Nat → Nat} {M M' : hp} {a : Nat} {E : va_E} (h1 : 64 ≤ a) (hN' : hN M' = hN M) (hE : kcell dA b ext M' a = E) (ho : ∀ a' : Nat, a' ≠ a → kcell dA b ext M' a' = kcell dA b ext M a') : (wz dA b ext M).set (a - 64) (kad b ext a, E) = wz dA b ext M' := by
  apply List.ext_getElem?
  intro k
  rw [List.getElem?_set]
  by_cases hk : k < hN M
  · by_cases e : a - 64 = k
    · rw [if_pos e, if_pos (by rw [wz_len]; omega)]
      have := wz_at (dA := dA) (b := b) (ext := ext) (M := M') (a := a) h1 (by rw [hN']; omega)
      rw [e, hE] at this
      exact this.symm
    · rw [if_neg e]
      have e1 := wz_at (dA := dA) (b := b) (ext := ext) (M := M) (a := 64 + k) (by omega) (by omega)
      have e2 := wz_at (dA := dA) (b := b) (ext := ext) (M := M') (a := 64 + k) (by omega) (by omega)
      rw [show 64 + k - 64 = k by omega] at e1 e2
      rw [e1, e2, ho (64 + k) (by omega)]
  · have e1 : (wz dA b ext M)[k]? = none := List.getElem?_eq_none (by rw [wz_len]; omega)
    have e2 : (wz dA b ext M')[k]? = none := List.getElem?_eq_none (by rw [wz_len, hN']; omega)
    rw [e1, e2]
    by_cases e : a - 64 = k
    · rw [if_pos e, if_neg (by rw [wz_len]; omega)]
    · rw [if_neg e]
theorem wz_push {dA : Nat → ClassId} {b : Nat} {ext : Nat → Nat} {M M' : hp} {E : va_E} (hN' : hN M' = hN M + 1) (hE : kcell dA b ext M' (64 + hN M) = E) (ho : ∀ a' : Nat, a' ≠ 64 + hN M → kcell dA b ext M' a' = kcell dA b ext M a') : wz dA b ext M ++ [(b + hN M, E)] = wz dA b ext M' := by
  unfold wz
  rw [hN', List.range_succ, List.map_append]
  congr 1
  · apply List.map_congr_left
    intro k hk
    rw [List.mem_range] at hk
    rw [ho (64 + k) (by omega)]
  · simp [hE]
theorem kcell_congr {dA : Nat → ClassId} {b : Nat} {ext : Nat → Nat} {M M' : hp} {a : Nat} (h1 : hK M' a = hK M a) (h2 : hI M' a = hI M a) (h3 : hL M' a = hL M a) (h4 : hR M' a = hR M a) : kcell dA b ext M' a = kcell dA b ext M a := by
  have e : ∀ ci, kfs M' a ci = kfs M a ci := by
    intro ci
    unfold kfs
    apply List.map_congr_left
    intro k _
    unfold kfv
    rw [h2, h3, h4]
  unfold kcell
  rw [h1, h2, h3, h4, e]
theorem up_ne {α : Type} {f : Nat → Nat → α} {a k a' : Nat} {v : α} (h : a' ≠ a) : up f a k v a' = f a' := by
  funext j
  simp [up, h]
theorem up_at {α : Type} {f : Nat → Nat → α} {a k : Nat} {v : α} {j : Nat} : up f a k v a j = if j = k then v else f a j := by
  simp [up]
theorem kcell_sI {dA : Nat → ClassId} {b : Nat} {ext : Nat → Nat} {M : hp} {a k : Nat} {v : Int32} : ∀ a' : Nat, a' ≠ a → kcell dA b ext (sI M a k v) a' = kcell dA b ext M a' :=
  fun a' h => kcell_congr rfl (up_ne (f := hI M) h) rfl rfl
theorem kcell_sL {dA : Nat → ClassId} {b : Nat} {ext : Nat → Nat} {M : hp} {a k : Nat} {v : Int64} : ∀ a' : Nat, a' ≠ a → kcell dA b ext (sL M a k v) a' = kcell dA b ext M a' :=
  fun a' h => kcell_congr rfl rfl (up_ne (f := hL M) h) rfl
theorem kcell_sR {dA : Nat → ClassId} {b : Nat} {ext : Nat → Nat} {M : hp} {a k : Nat} {v : Nat} : ∀ a' : Nat, a' ≠ a → kcell dA b ext (sR M a k v) a' = kcell dA b ext M a' :=
  fun a' h => kcell_congr rfl rfl rfl (up_ne (f := hR M) h)
theorem kcell_obj {dA : Nat → ClassId} {b : Nat} {ext : Nat → Nat} {M : hp} {a ci : Nat} (h : (hK M a).1 = ci) (hc : ci < 10) : kcell dA b ext M a = .inr (ci, (kfs M a ci).map (krn b ext)) := by
  unfold kcell
  subst h
  rw [if_neg (by omega), if_neg (by omega), if_neg (by omega), if_neg (by omega), if_neg (by omega)]
theorem kcell_20 {dA : Nat → ClassId} {b : Nat} {ext : Nat → Nat} {M : hp} {a : Nat} (h : (hK M a).1 = 20) : kcell dA b ext M a = .inl (dA 0, (hK M a).2, .inl (hI M a)) := by
  unfold kcell; rw [if_pos h]
theorem kcell_21 {dA : Nat → ClassId} {b : Nat} {ext : Nat → Nat} {M : hp} {a : Nat} (h : (hK M a).1 = 21) : kcell dA b ext M a = .inl (dA 1, (hK M a).2, .inr (.inl (hL M a))) := by
  unfold kcell; rw [if_neg (by omega), if_pos h]
theorem kcell_22 {dA : Nat → ClassId} {b : Nat} {ext : Nat → Nat} {M : hp} {a : Nat} (h : (hK M a).1 = 22) : kcell dA b ext M a = .inl (dA 2, (hK M a).2, .inl (hI M a)) := by
  unfold kcell; rw [if_neg (by omega), if_neg (by omega), if_pos h]
theorem kcell_23 {dA : Nat → ClassId} {b : Nat} {ext : Nat → Nat} {M : hp} {a : Nat} (h : (hK M a).1 = 23) : kcell dA b ext M a = .inl (dA 3, (hK M a).2, .inr (.inr (.inr (.inr (fun i => krq b ext (hR M a i)))))) := by
  unfold kcell; rw [if_neg (by omega), if_neg (by omega), if_neg (by omega), if_pos h]
theorem kcell_24 {dA : Nat → ClassId} {b : Nat} {ext : Nat → Nat} {M : hp} {a : Nat} (h : (hK M a).1 = 24) : kcell dA b ext M a = .inl (dA 4, (hK M a).2, .inr (.inr (.inr (.inr (fun i => krq b ext (hR M a i)))))) := by
  unfold kcell; rw [if_neg (by omega), if_neg (by omega), if_neg (by omega), if_neg (by omega), if_pos h]
theorem kfs_len (M : hp) (a ci : Nat) : (kfs M a ci).length = kNF ci := by simp [kfs]
theorem kfs_at {M : hp} {a ci k : Nat} (h : k < kNF ci) : (kfs M a ci)[k]? = some (kfv M a ci k) := by
  unfold kfs
  rw [List.getElem?_map, List.getElem?_range h]
  rfl
theorem kfs_set {M M' : hp} {a ci k : Nat} {v : Value} (h : k < kNF ci) (hv : kfv M' a ci k = v) (ho : ∀ j, j ≠ k → kfv M' a ci j = kfv M a ci j) : kfs M' a ci = (kfs M a ci).set k v := by
  apply List.ext_getElem?
  intro j
  rw [List.getElem?_set]
  by_cases hj : j < kNF ci
  · rw [kfs_at hj]
    by_cases e : k = j
    · subst e
      rw [if_pos rfl, if_pos (by rw [kfs_len]; exact h), hv]
    · rw [if_neg e, kfs_at hj, ho j (fun z => e z.symm)]
  · rw [List.getElem?_eq_none (by rw [kfs_len]; omega)]
    by_cases e : k = j
    · omega
    · rw [if_neg e, List.getElem?_eq_none (by rw [kfs_len]; omega)]
def kSlen : List Nat := (kSs.drop 2).map List.length
def kSbyt : List (List Int32) := (kSs.drop 2).map (fun l => l.map Int32.ofNat)
/-- what the tables and the cells from outside say of the texts written in the code -/
def kSF (ext adV : Nat → Nat) (A : Nat → Prop) (U : State) (H : Heap) : Prop :=
  (∀ e ∈ kKS, vk_R (kOn e.1) e.2.1 (kStr.getD e.2.2.2 "") (ext e.2.2.2) U) ∧ vk_S 11 kSlen kSbyt (fun i => ext (i + 2)) adV A U H ∧ va_Z "java/lang/String" "COMPACT_STRINGS" "Z" (.int 1) A U H ∧ va_Zq "jdk/internal/util/Preconditions" "SIOOBE_FORMATTER" "Ljava/util/function/BiFunction;" A U H
theorem kSF.warm {ext adV : Nat → Nat} {A : Nat → Prop} {s U : State} {H : Heap} (hW : s.WarmedH U.vm) (h : kSF ext adV A s H) : kSF ext adV A U H :=
  ⟨fun e he => (h.1 e he).warm hW, h.2.1.moved hW.alike, h.2.2.1.moved hW.alike, h.2.2.2.moved hW.alike⟩
theorem kSF.kept {ext adV : Nat → Nat} {A : Nat → Prop} {U : State} {H H1 : Heap} (h : kSF ext adV A U H) (hq : ∀ a : Nat, a < H.size → ¬ A a → H1[a]? = H[a]?) : kSF ext adV A U H1 :=
  ⟨h.1, h.2.1.kept hq, h.2.2.1.kept hq, h.2.2.2.kept hq⟩
theorem kSF.same {ext adV : Nat → Nat} {A : Nat → Prop} {u U : State} {H : Heap} (hv : U.vm = u.vm) (h : kSF ext adV A u H) : kSF ext adV A U H :=
  ⟨fun e he => (h.1 e he).same hv, h.2.1.moved (by rw [hv]; exact Vm.Alike.refl _), h.2.2.1.moved (by rw [hv]; exact Vm.Alike.refl _), h.2.2.2.moved (by rw [hv]; exact Vm.Alike.refl _)⟩
