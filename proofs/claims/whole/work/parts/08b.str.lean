/-! the JDK's length() and charAt() of a text written in the code: six small methods, nothing written -/
def jS (ext adV : Nat → Nat) (A : Nat → Prop) (U : State) (H : Heap) : Prop := vk_S 11 kSlen kSbyt (fun i => ext (i + 2)) adV A U H ∧ va_Z "java/lang/String" "COMPACT_STRINGS" "Z" (.int 1) A U H ∧ va_Zq "jdk/internal/util/Preconditions" "SIOOBE_FORMATTER" "Ljava/util/function/BiFunction;" A U H
theorem jS.moved {ext adV : Nat → Nat} {A : Nat → Prop} {u U : State} {H : Heap} (hvm : u.vm.Alike U.vm) (h : jS ext adV A u H) : jS ext adV A U H := ⟨h.1.moved hvm, h.2.1.moved hvm, h.2.2.moved hvm⟩
theorem jS.kept {ext adV : Nat → Nat} {A : Nat → Prop} {U : State} {H H1 : Heap} (h : jS ext adV A U H) (hq : ∀ a : Nat, a < H.size → ¬ A a → H1[a]? = H[a]?) : jS ext adV A U H1 := ⟨h.1.kept hq, h.2.1.kept hq, h.2.2.kept hq⟩
def jPc (ext adV : Nat → Nat) (A : Nat → Prop) (vs : List Value) : Array Value → State → Prop := fun v U => v = vs.toArray ∧ jS ext adV A U U.heap
def jQc (r : Option Value) : Array Value → State → Outcome → State → Prop := fun _ st o t => o = .returned r ∧ t.heap = st.heap
theorem jPc_blind {ext adV : Nat → Nat} {A : Nat → Prop} {vs : List Value} : FrameBlind (jPc ext adV A vs) := by
  intro a U g mk q
  exact ⟨q.1, jS.moved (u := U) (U := U.calling g mk a) (Vm.Alike.refl U.vm) q.2⟩
def jW (y : MethodName) (bs : ByteArray) (n : Nat) (r : Option FieldType) : List Jvm.Cond := Jvm.Cond.code y bs n r :: lwG
theorem jW_good {y : MethodName} {bs : ByteArray} {n : Nat} {r : Option FieldType} (h : Jvm.Cond.code y bs n r ∈ lwG) : GoodIn lwG (jW y bs n r) := by
  intro w hw
  rcases List.mem_cons.mp hw with rfl | hw
  · exact ⟨h, good_of_word rfl⟩
  · exact ⟨hw, good_of_word (List.all_eq_true.mp lwG_good w hw)⟩
def jRm (k : Nat) : Room := { frames := k, cells := 0, slots := 0, locals := 30 * k }
def yJ_pre : MethodName := ⟨"jdk/internal/util/Preconditions", "checkIndex", "(IILjava/util/function/BiFunction;)I"⟩
def yJ_chk : MethodName := ⟨"java/lang/String", "checkIndex", "(II)V"⟩
def yJ_lat : MethodName := ⟨"java/lang/StringLatin1", "charAt", "([BI)C"⟩
def yJ_cod : MethodName := ⟨"java/lang/String", "coder", "()B"⟩
def yJ_isl : MethodName := ⟨"java/lang/String", "isLatin1", "()Z"⟩
def yJ_len : MethodName := ⟨"java/lang/String", "length", "()I"⟩
def yJ_at : MethodName := ⟨"java/lang/String", "charAt", "(I)C"⟩
theorem jw_pre : Jvm.Cond.code yJ_pre prog_17_method_11_code 3 (some .int) ∈ lwG := lwG_of (i := 658) (by decide +kernel) rfl
theorem jw_chk : Jvm.Cond.code yJ_chk prog_14_method_155_code 2 none ∈ lwG := lwG_of (i := 653) (by decide +kernel) rfl
theorem jw_lat : Jvm.Cond.code yJ_lat prog_15_method_2_code 2 (some .char) ∈ lwG := lwG_of (i := 650) (by decide +kernel) rfl
theorem jw_cod : Jvm.Cond.code yJ_cod prog_14_method_152_code 1 (some .byte) ∈ lwG := lwG_of (i := 637) (by decide +kernel) rfl
theorem jw_isl : Jvm.Cond.code yJ_isl prog_14_method_154_code 1 (some .boolean) ∈ lwG := lwG_of (i := 647) (by decide +kernel) rfl
theorem jw_len : Jvm.Cond.code yJ_len prog_14_method_54_code 1 (some .int) ∈ lwG := lwG_of (i := 633) (by decide +kernel) rfl
theorem jw_at : Jvm.Cond.code yJ_at prog_14_method_56_code 2 (some .char) ∈ lwG := lwG_of (i := 643) (by decide +kernel) rfl
/-- a char of a text written in the code -/
def jCh (i : Nat) (x : Int32) : Int32 := Int32.ofNat ((kSs.getD (i + 2) []).getD x.toNatClampNeg 0)
def jLn (i : Nat) : Int32 := Int32.ofNat (kSs.getD (i + 2) []).length
theorem jchk : (List.range 11).all (fun i => decide (kSlen.getD i 0 = (kSs.getD (i + 2) []).length) && decide (Int32.ofNat (kSlen.getD i 0) >>> ((0 : Int32) &&& 31) = Int32.ofNat (kSs.getD (i + 2) []).length) && decide (kSlen.getD i 0 < 100) && (List.range (kSlen.getD i 0)).all (fun j => decide ((((kSbyt.getD i []).getD j 0 &&& 255).toUInt32 % 65536).toInt32 = Int32.ofNat ((kSs.getD (i + 2) []).getD j 0)) && decide (narrow .char (.int (Int32.ofNat ((kSs.getD (i + 2) []).getD j 0))) = .int (Int32.ofNat ((kSs.getD (i + 2) []).getD j 0))))) = true := by decide +kernel
theorem jln {i : Nat} (h : i < 11) : kSlen.getD i 0 = (kSs.getD (i + 2) []).length ∧ Int32.ofNat (kSlen.getD i 0) >>> ((0 : Int32) &&& 31) = jLn i ∧ kSlen.getD i 0 < 100 := by
  have h1 := List.all_eq_true.mp jchk i (List.mem_range.mpr h)
  simp only [Bool.and_eq_true, decide_eq_true_eq] at h1
  exact ⟨h1.1.1.1, h1.1.1.2, h1.1.2⟩
theorem jch {i : Nat} {x : Int32} (h : i < 11) (hx : vp_in x (kSlen.getD i 0)) : (((kSbyt.getD i []).getD x.toNatClampNeg 0 &&& 255).toUInt32 % 65536).toInt32 = jCh i x ∧ narrow .char (.int (jCh i x)) = .int (jCh i x) := by
  have h1 := List.all_eq_true.mp jchk i (List.mem_range.mpr h)
  rw [Bool.and_eq_true] at h1
  have hl : x.toNatClampNeg < kSlen.getD i 0 := Nat.lt_of_not_le (fun q => hx (Or.inr q))
  have h2 := List.all_eq_true.mp h1.2 x.toNatClampNeg (List.mem_range.mpr hl)
  simp only [Bool.and_eq_true, decide_eq_true_eq] at h2
  exact h2
theorem jlt {x : Int32} {n : Nat} (h : vp_in x n) (hn : n < 100) : x < Int32.ofNat n := by
  have h0 : ¬ x < 0 := fun q => h (Or.inl q)
  have h1 : x.toNatClampNeg < n := Nat.lt_of_not_le (fun q => h (Or.inr q))
  have e1 : (0 : Int) ≤ x.toInt := by
    have := Int32.not_lt.mp h0
    simpa using Int32.le_iff_toInt_le.mp this
  have e2 : (Int32.ofNat n).toInt = (n : Int) := nI_toInt (by omega)
  rw [Int32.lt_iff_toInt_lt, e2]
  have e3 : ((x.toInt.toNat : Nat) : Int) = x.toInt := Int.toNat_of_nonneg e1
  have h2 : x.toInt.toNat < n := h1
  omega
section JRUN
variable {p : Program} {l : Launch} {e : Env} {R : Room} {s : State} {m : MethodId} {args : Array Value} {below : List Frame} {meth : Method} {c : Code} {H : Heap} {locs : List Loc} {cells slots : Nat} {Q : State → Prop} {pc : Nat} {ls : Array Slot}
/-- behind such a call all is as it was -/
theorem jrun {v : Option Value} {st0 rest : List Value} {Qa : State → Outcome → State → Prop} (hr : va_Run p l e R s m args below meth c H locs cells slots 0 0 (F0 m pc ls st0) rest Qa (fun _ => False)) (hQ : ∀ st o t, Qa st o t → o = .returned v ∧ t.heap = st.heap)
    (kk : W p l e R s m args below meth c H locs cells slots Q (F0 m (pc + 3) ls (v.toList ++ rest))) : W p l e R s m args below meth c H locs cells slots Q (F0 m pc ls st0) := by
  intro T hT X
  obtain ⟨v', st₀, t, T', L, h0, X', hL, e1, e2, hq, st⟩ := hr T hT X
  obtain ⟨hv, hh⟩ := hQ _ _ _ hq
  cases hv
  have hLn : L = [] := by
    cases L with
    | nil => rfl
    | cons q t => exact (hL q List.mem_cons_self).elim
  subst hLn
  rw [List.append_nil] at X'
  obtain ⟨t2, a1, b1⟩ := kk T' (by rw [e1, hh, h0]) X'
  exact ⟨t2, st t2 a1, b1⟩
end JRUN
section JMET
variable {l : Launch} {ext adV : Nat → Nat} {A : Nat → Prop}
theorem j_prer {t : Nat} {i n : Int32} (h0 : ¬ i < 0) (h1 : i < n) : Met l yJ_pre (jW yJ_pre prog_17_method_11_code 3 (some .int)) (jRm 1) (jPc ext adV A [.int i, .int n, .ref t]) (jQc (some (.int i))) 0 0 (fun _ => False) := by
  refine Met.ofW (cc := prog_17_method_11_code) (maxL := 3) (ret := (some .int)) (by decide) rfl ?_
  intro p e s m args below meth c s₁ B hml hv
  obtain ⟨rfl, hJ⟩ := hv
  have hts0 := atoms_spec (ws := jW yJ_pre prog_17_method_11_code 3 (some .int)) B.pre
  have hts : ∀ w ∈ lwG, w.before _ s = true := fun w hw => hts0 w (List.mem_cons_of_mem _ hw)
  have hown : s.vm.findClass "jdk/internal/util/Preconditions" = some m.cls := findClass_of_methodNamed B.named
  have hx := B.exec
  have hb := B.bytes
  have hr := B.returns
  have hlocks := B.notSynchronized
  have hS : va_S A s.heap s.heap [] := va_S.rf
  have hl := lv_entry [.int i, .int n, .ref t] (n := 3) (Nat.le_of_ble_eq_true rfl)
  rw [lg_entry_eq]
  generalize (lg_sl [.int i, .int n, .ref t] ++ List.replicate (3 - (lg_sl [.int i, .int n, .ref t]).length) Slot.unset).toArray = ls at hl ⊢
  refine lv_iload_n hx hb (show decode prog_17_method_11_code 0 = .ok (.iload_n 0, 1) by decide +kernel) rfl (lv_at hl 0 rfl) ?_
  refine lv_if_lt hx hb (tgt := 9) (show decode prog_17_method_11_code 1 = .ok (.ifCond .lt 8, 3) by decide +kernel) rfl (fun q => absurd q h0) (fun _ => ?_)
  refine lv_iload_n hx hb (show decode prog_17_method_11_code 4 = .ok (.iload_n 0, 1) by decide +kernel) rfl (lv_at hl 0 rfl) ?_
  refine lv_iload_n hx hb (show decode prog_17_method_11_code 5 = .ok (.iload_n 1, 1) by decide +kernel) rfl (lv_at hl 1 rfl) ?_
  refine lv_icmp_lt hx hb (tgt := 16) (show decode prog_17_method_11_code 6 = .ok (.if_icmp .lt 10, 3) by decide +kernel) rfl (fun _ => ?_) (fun q => absurd h1 q)
  refine lv_iload_n hx hb (show decode prog_17_method_11_code 16 = .ok (.iload_n 0, 1) by decide +kernel) rfl (lv_at hl 0 rfl) ?_
  exact W.iret hx hb hr (fun t ht _ => ⟨rfl, ht⟩) (fun q hq => by cases hq) (show decode prog_17_method_11_code 17 = .ok (.ireturn, 1) by decide +kernel) hlocks
theorem j_pren {i n : Int32} (h0 : ¬ i < 0) (h1 : i < n) : Met l yJ_pre (jW yJ_pre prog_17_method_11_code 3 (some .int)) (jRm 1) (jPc ext adV A [.int i, .int n, .null]) (jQc (some (.int i))) 0 0 (fun _ => False) := by
  refine Met.ofW (cc := prog_17_method_11_code) (maxL := 3) (ret := (some .int)) (by decide) rfl ?_
  intro p e s m args below meth c s₁ B hml hv
  obtain ⟨rfl, hJ⟩ := hv
  have hts0 := atoms_spec (ws := jW yJ_pre prog_17_method_11_code 3 (some .int)) B.pre
  have hts : ∀ w ∈ lwG, w.before _ s = true := fun w hw => hts0 w (List.mem_cons_of_mem _ hw)
  have hown : s.vm.findClass "jdk/internal/util/Preconditions" = some m.cls := findClass_of_methodNamed B.named
  have hx := B.exec
  have hb := B.bytes
  have hr := B.returns
  have hlocks := B.notSynchronized
  have hS : va_S A s.heap s.heap [] := va_S.rf
  have hl := lv_entry [.int i, .int n, .null] (n := 3) (Nat.le_of_ble_eq_true rfl)
  rw [lg_entry_eq]
  generalize (lg_sl [.int i, .int n, .null] ++ List.replicate (3 - (lg_sl [.int i, .int n, .null]).length) Slot.unset).toArray = ls at hl ⊢
  refine lv_iload_n hx hb (show decode prog_17_method_11_code 0 = .ok (.iload_n 0, 1) by decide +kernel) rfl (lv_at hl 0 rfl) ?_
  refine lv_if_lt hx hb (tgt := 9) (show decode prog_17_method_11_code 1 = .ok (.ifCond .lt 8, 3) by decide +kernel) rfl (fun q => absurd q h0) (fun _ => ?_)
  refine lv_iload_n hx hb (show decode prog_17_method_11_code 4 = .ok (.iload_n 0, 1) by decide +kernel) rfl (lv_at hl 0 rfl) ?_
  refine lv_iload_n hx hb (show decode prog_17_method_11_code 5 = .ok (.iload_n 1, 1) by decide +kernel) rfl (lv_at hl 1 rfl) ?_
  refine lv_icmp_lt hx hb (tgt := 16) (show decode prog_17_method_11_code 6 = .ok (.if_icmp .lt 10, 3) by decide +kernel) rfl (fun _ => ?_) (fun q => absurd h1 q)
  refine lv_iload_n hx hb (show decode prog_17_method_11_code 16 = .ok (.iload_n 0, 1) by decide +kernel) rfl (lv_at hl 0 rfl) ?_
  exact W.iret hx hb hr (fun t ht _ => ⟨rfl, ht⟩) (fun q hq => by cases hq) (show decode prog_17_method_11_code 17 = .ok (.ireturn, 1) by decide +kernel) hlocks
theorem j_chk {i n : Int32} (h0 : ¬ i < 0) (h1 : i < n) : Met l yJ_chk (jW yJ_chk prog_14_method_155_code 2 none) (jRm 2) (jPc ext adV A [.int i, .int n]) (jQc none) 0 0 (fun _ => False) := by
  refine Met.ofW (cc := prog_14_method_155_code) (maxL := 2) (ret := none) (by decide) rfl ?_
  intro p e s m args below meth c s₁ B hml hv
  obtain ⟨rfl, hJ⟩ := hv
  have hts0 := atoms_spec (ws := jW yJ_chk prog_14_method_155_code 2 none) B.pre
  have hts : ∀ w ∈ lwG, w.before _ s = true := fun w hw => hts0 w (List.mem_cons_of_mem _ hw)
  have hown : s.vm.findClass "java/lang/String" = some m.cls := findClass_of_methodNamed B.named
  have hx := B.exec
  have hb := B.bytes
  have hr := B.returns
  have hlocks := B.notSynchronized
  have hS : va_S A s.heap s.heap [] := va_S.rf
  have hl := lv_entry [.int i, .int n] (n := 2) (Nat.le_of_ble_eq_true rfl)
  rw [lg_entry_eq]
  generalize (lg_sl [.int i, .int n] ++ List.replicate (2 - (lg_sl [.int i, .int n]).length) Slot.unset).toArray = ls at hl ⊢
  refine lv_iload_n hx hb (show decode prog_14_method_155_code 0 = .ok (.iload_n 0, 1) by decide +kernel) rfl (lv_at hl 0 rfl) ?_
  refine lv_iload_n hx hb (show decode prog_14_method_155_code 1 = .ok (.iload_n 1, 1) by decide +kernel) rfl (lv_at hl 1 rfl) ?_
  rcases hJ.2.2 with hZ | ⟨t, hZ⟩
  · refine va_gets hx hb hZ hS hown (hts _ (lwG_of (i := 654) (by decide +kernel) rfl)) (fun _ h => h) (show decode prog_14_method_155_code 2 = .ok (.getstatic 1053, 3) by decide +kernel) ?_
    refine jrun (va_runS (As := [.int i, .int n, .null]) (rest := []) ⟨hx, hb, hml, hown, hts⟩ (j_pren (l := l) (ext := ext) (adV := adV) (A := A) h0 h1) ⟨callB_of 3 hts (jW_good jw_pre) rfl rfl rfl (hts _ (lwG_of (i := 123) (by decide +kernel) rfl)) (hts _ (lwG_of (i := 656) (by decide +kernel) rfl)) ⟨by decide, by decide, by decide +kernel⟩ ⟨Nat.le_of_ble_eq_true rfl, Nat.le_of_ble_eq_true rfl⟩, (hts _ (lwG_of (i := 657) (by decide +kernel) rfl))⟩ ⟨jPc_blind, fun U hU hW => ⟨rfl, by rw [hU]; exact hJ.moved hW.alike⟩⟩ rfl rfl hl.1 rfl (lv_room (Nat.le_of_ble_eq_true rfl)) (show decode prog_14_method_155_code 5 = .ok (.invokestatic 1059, 3) by decide +kernel) ⟨Nat.zero_le _, Nat.zero_le _⟩) (fun _ _ _ q => q) ?_
    refine lv_pop hx hb (show decode prog_14_method_155_code 8 = .ok (.pop, 1) by decide +kernel) rfl ?_
    exact W.vret hx hb hr (fun t ht _ => ⟨rfl, ht⟩) (fun q hq => by cases hq) (show decode prog_14_method_155_code 9 = .ok (.return_, 1) by decide +kernel) hlocks
  · refine va_gets hx hb hZ hS hown (hts _ (lwG_of (i := 654) (by decide +kernel) rfl)) (fun _ h => h) (show decode prog_14_method_155_code 2 = .ok (.getstatic 1053, 3) by decide +kernel) ?_
    refine jrun (va_runS (As := [.int i, .int n, .ref t]) (rest := []) ⟨hx, hb, hml, hown, hts⟩ (j_prer (l := l) (ext := ext) (adV := adV) (A := A) h0 h1) ⟨callB_of 3 hts (jW_good jw_pre) rfl rfl rfl (hts _ (lwG_of (i := 123) (by decide +kernel) rfl)) (hts _ (lwG_of (i := 656) (by decide +kernel) rfl)) ⟨by decide, by decide, by decide +kernel⟩ ⟨Nat.le_of_ble_eq_true rfl, Nat.le_of_ble_eq_true rfl⟩, (hts _ (lwG_of (i := 657) (by decide +kernel) rfl))⟩ ⟨jPc_blind, fun U hU hW => ⟨rfl, by rw [hU]; exact hJ.moved hW.alike⟩⟩ rfl rfl hl.1 rfl (lv_room (Nat.le_of_ble_eq_true rfl)) (show decode prog_14_method_155_code 5 = .ok (.invokestatic 1059, 3) by decide +kernel) ⟨Nat.zero_le _, Nat.zero_le _⟩) (fun _ _ _ q => q) ?_
    refine lv_pop hx hb (show decode prog_14_method_155_code 8 = .ok (.pop, 1) by decide +kernel) rfl ?_
    exact W.vret hx hb hr (fun t ht _ => ⟨rfl, ht⟩) (fun q hq => by cases hq) (show decode prog_14_method_155_code 9 = .ok (.return_, 1) by decide +kernel) hlocks
theorem j_lat {i : Nat} {x : Int32} (hi : i < 11) (hin : vp_in x (kSlen.getD i 0)) : Met l yJ_lat (jW yJ_lat prog_15_method_2_code 2 (some .char)) (jRm 3) (jPc ext adV A [.ref (adV i), .int x]) (jQc (some (.int (jCh i x)))) 0 0 (fun _ => False) := by
  refine Met.ofW (cc := prog_15_method_2_code) (maxL := 2) (ret := (some .char)) (by decide) rfl ?_
  intro p e s m args below meth c s₁ B hml hv
  obtain ⟨rfl, hJ⟩ := hv
  have hts0 := atoms_spec (ws := jW yJ_lat prog_15_method_2_code 2 (some .char)) B.pre
  have hts : ∀ w ∈ lwG, w.before _ s = true := fun w hw => hts0 w (List.mem_cons_of_mem _ hw)
  have hown : s.vm.findClass "java/lang/StringLatin1" = some m.cls := findClass_of_methodNamed B.named
  have hx := B.exec
  have hb := B.bytes
  have hr := B.returns
  have hlocks := B.notSynchronized
  have hS : va_S A s.heap s.heap [] := va_S.rf
  have hl := lv_entry [.ref (adV i), .int x] (n := 2) (Nat.le_of_ble_eq_true rfl)
  rw [lg_entry_eq]
  generalize (lg_sl [.ref (adV i), .int x] ++ List.replicate (2 - (lg_sl [.ref (adV i), .int x]).length) Slot.unset).toArray = ls at hl ⊢
  obtain ⟨-, -, -, hT⟩ := hJ.1.1 i hi
  refine lv_iload_n hx hb (show decode prog_15_method_2_code 0 = .ok (.iload_n 1, 1) by decide +kernel) rfl (lv_at hl 1 rfl) ?_
  refine lv_aload_n hx hb (show decode prog_15_method_2_code 1 = .ok (.aload_n 0, 1) by decide +kernel) rfl (lv_at hl 0 rfl) ?_
  refine va_tlen hx hb hT hS rfl (show decode prog_15_method_2_code 2 = .ok (.arraylength, 1) by decide +kernel) ?_
  have h0 : ¬ x < 0 := fun q => hin (Or.inl q)
  have h1 : x < Int32.ofNat (kSlen.getD i 0) := jlt hin (jln hi).2.2
  refine jrun (va_runS (As := [.int x, .int (Int32.ofNat (kSlen.getD i 0))]) (rest := []) ⟨hx, hb, hml, hown, hts⟩ (j_chk (l := l) (ext := ext) (adV := adV) (A := A) h0 h1) ⟨callB_of 2 hts (jW_good jw_chk) rfl rfl rfl (hts _ (lwG_of (i := 121) (by decide +kernel) rfl)) (hts _ (lwG_of (i := 651) (by decide +kernel) rfl)) ⟨by decide, by decide, by decide +kernel⟩ ⟨Nat.le_of_ble_eq_true rfl, Nat.le_of_ble_eq_true rfl⟩, (hts _ (lwG_of (i := 652) (by decide +kernel) rfl))⟩ ⟨jPc_blind, fun U hU hW => ⟨rfl, by rw [hU]; exact hJ.moved hW.alike⟩⟩ rfl rfl hl.1 rfl (lv_room (Nat.le_of_ble_eq_true rfl)) (show decode prog_15_method_2_code 3 = .ok (.invokestatic 9, 3) by decide +kernel) ⟨Nat.zero_le _, Nat.zero_le _⟩) (fun _ _ _ q => q) ?_
  refine lv_aload_n hx hb (show decode prog_15_method_2_code 6 = .ok (.aload_n 0, 1) by decide +kernel) rfl (lv_at hl 0 rfl) ?_
  refine lv_iload_n hx hb (show decode prog_15_method_2_code 7 = .ok (.iload_n 1, 1) by decide +kernel) rfl (lv_at hl 1 rfl) ?_
  refine va_tb hx hb hT hS hin rfl (show decode prog_15_method_2_code 8 = .ok (.baload, 1) by decide +kernel) ?_
  refine lv_sipush (v := 255) hx hb (show decode prog_15_method_2_code 9 = .ok (.sipush 255, 3) by decide +kernel) (by decide) ?_
  refine lv_iand hx hb (show decode prog_15_method_2_code 12 = .ok (.iand, 1) by decide +kernel) ?_
  refine lv_i2c hx hb (show decode prog_15_method_2_code 13 = .ok (.i2c, 1) by decide +kernel) (jch hi hin).1 ?_
  exact W.zret hx hb hr (jch hi hin).2 (fun t ht _ => ⟨rfl, ht⟩) (fun q hq => by cases hq) (show decode prog_15_method_2_code 14 = .ok (.ireturn, 1) by decide +kernel) hlocks
theorem j_cod {i : Nat} (hi : i < 11) : Met l yJ_cod (jW yJ_cod prog_14_method_152_code 1 (some .byte)) (jRm 1) (jPc ext adV A [.ref (ext (i + 2))]) (jQc (some (.int 0))) 0 0 (fun _ => False) := by
  refine Met.ofW (cc := prog_14_method_152_code) (maxL := 1) (ret := (some .byte)) (by decide) rfl ?_
  intro p e s m args below meth c s₁ B hml hv
  obtain ⟨rfl, hJ⟩ := hv
  have hts0 := atoms_spec (ws := jW yJ_cod prog_14_method_152_code 1 (some .byte)) B.pre
  have hts : ∀ w ∈ lwG, w.before _ s = true := fun w hw => hts0 w (List.mem_cons_of_mem _ hw)
  have hown : s.vm.findClass "java/lang/String" = some m.cls := findClass_of_methodNamed B.named
  have hx := B.exec
  have hb := B.bytes
  have hr := B.returns
  have hlocks := B.notSynchronized
  have hS : va_S A s.heap s.heap [] := va_S.rf
  have hl := lv_entry [.ref (ext (i + 2))] (n := 1) (Nat.le_of_ble_eq_true rfl)
  rw [lg_entry_eq]
  generalize (lg_sl [.ref (ext (i + 2))] ++ List.replicate (1 - (lg_sl [.ref (ext (i + 2))]).length) Slot.unset).toArray = ls at hl ⊢
  obtain ⟨-, hC, -, -⟩ := hJ.1.1 i hi
  refine va_gets hx hb hJ.2.1 hS hown (hts _ (lwG_of (i := 638) (by decide +kernel) rfl)) (fun _ h => h) (show decode prog_14_method_152_code 0 = .ok (.getstatic 38, 3) by decide +kernel) ?_
  refine lv_if_eq hx hb (tgt := 13) (show decode prog_14_method_152_code 3 = .ok (.ifCond .eq 10, 3) by decide +kernel) rfl (fun q => absurd q (by decide)) (fun _ => ?_)
  refine lv_aload_n hx hb (show decode prog_14_method_152_code 6 = .ok (.aload_n 0, 1) by decide +kernel) rfl (lv_at hl 0 rfl) ?_
  refine vk_getf hx hb hC hS hown (hts _ (lwG_of (i := 1826) (by decide +kernel) rfl)) (fun _ h => h) (show decode prog_14_method_152_code 7 = .ok (.getfield 15, 3) by decide +kernel) ?_
  refine lv_goto hx hb (tgt := 14) (show decode prog_14_method_152_code 10 = .ok (.goto 4, 3) by decide +kernel) rfl ?_
  exact W.zret hx hb hr rfl (fun t ht _ => ⟨rfl, ht⟩) (fun q hq => by cases hq) (show decode prog_14_method_152_code 14 = .ok (.ireturn, 1) by decide +kernel) hlocks
theorem j_isl {i : Nat} (hi : i < 11) : Met l yJ_isl (jW yJ_isl prog_14_method_154_code 1 (some .boolean)) (jRm 1) (jPc ext adV A [.ref (ext (i + 2))]) (jQc (some (.int 1))) 0 0 (fun _ => False) := by
  refine Met.ofW (cc := prog_14_method_154_code) (maxL := 1) (ret := (some .boolean)) (by decide) rfl ?_
  intro p e s m args below meth c s₁ B hml hv
  obtain ⟨rfl, hJ⟩ := hv
  have hts0 := atoms_spec (ws := jW yJ_isl prog_14_method_154_code 1 (some .boolean)) B.pre
  have hts : ∀ w ∈ lwG, w.before _ s = true := fun w hw => hts0 w (List.mem_cons_of_mem _ hw)
  have hown : s.vm.findClass "java/lang/String" = some m.cls := findClass_of_methodNamed B.named
  have hx := B.exec
  have hb := B.bytes
  have hr := B.returns
  have hlocks := B.notSynchronized
  have hS : va_S A s.heap s.heap [] := va_S.rf
  have hl := lv_entry [.ref (ext (i + 2))] (n := 1) (Nat.le_of_ble_eq_true rfl)
  rw [lg_entry_eq]
  generalize (lg_sl [.ref (ext (i + 2))] ++ List.replicate (1 - (lg_sl [.ref (ext (i + 2))]).length) Slot.unset).toArray = ls at hl ⊢
  obtain ⟨-, hC, -, -⟩ := hJ.1.1 i hi
  refine va_gets hx hb hJ.2.1 hS hown (hts _ (lwG_of (i := 638) (by decide +kernel) rfl)) (fun _ h => h) (show decode prog_14_method_154_code 0 = .ok (.getstatic 38, 3) by decide +kernel) ?_
  refine lv_if_eq hx hb (tgt := 17) (show decode prog_14_method_154_code 3 = .ok (.ifCond .eq 14, 3) by decide +kernel) rfl (fun q => absurd q (by decide)) (fun _ => ?_)
  refine lv_aload_n hx hb (show decode prog_14_method_154_code 6 = .ok (.aload_n 0, 1) by decide +kernel) rfl (lv_at hl 0 rfl) ?_
  refine vk_getf hx hb hC hS hown (hts _ (lwG_of (i := 1826) (by decide +kernel) rfl)) (fun _ h => h) (show decode prog_14_method_154_code 7 = .ok (.getfield 15, 3) by decide +kernel) ?_
  refine lv_if_ne hx hb (tgt := 17) (show decode prog_14_method_154_code 10 = .ok (.ifCond .ne 7, 3) by decide +kernel) rfl (fun q => absurd rfl q) (fun _ => ?_)
  refine lv_iconst (v := 1) hx hb (show decode prog_14_method_154_code 13 = .ok (.iconst 1, 1) by decide +kernel) (by decide) ?_
  refine lv_goto hx hb (tgt := 18) (show decode prog_14_method_154_code 14 = .ok (.goto 4, 3) by decide +kernel) rfl ?_
  exact W.zret hx hb hr rfl (fun t ht _ => ⟨rfl, ht⟩) (fun q hq => by cases hq) (show decode prog_14_method_154_code 18 = .ok (.ireturn, 1) by decide +kernel) hlocks
theorem j_len {i : Nat} (hi : i < 11) : Met l yJ_len (jW yJ_len prog_14_method_54_code 1 (some .int)) (jRm 2) (jPc ext adV A [.ref (ext (i + 2))]) (jQc (some (.int (jLn i)))) 0 0 (fun _ => False) := by
  refine Met.ofW (cc := prog_14_method_54_code) (maxL := 1) (ret := (some .int)) (by decide) rfl ?_
  intro p e s m args below meth c s₁ B hml hv
  obtain ⟨rfl, hJ⟩ := hv
  have hts0 := atoms_spec (ws := jW yJ_len prog_14_method_54_code 1 (some .int)) B.pre
  have hts : ∀ w ∈ lwG, w.before _ s = true := fun w hw => hts0 w (List.mem_cons_of_mem _ hw)
  have hown : s.vm.findClass "java/lang/String" = some m.cls := findClass_of_methodNamed B.named
  have hx := B.exec
  have hb := B.bytes
  have hr := B.returns
  have hlocks := B.notSynchronized
  have hS : va_S A s.heap s.heap [] := va_S.rf
  have hl := lv_entry [.ref (ext (i + 2))] (n := 1) (Nat.le_of_ble_eq_true rfl)
  rw [lg_entry_eq]
  generalize (lg_sl [.ref (ext (i + 2))] ++ List.replicate (1 - (lg_sl [.ref (ext (i + 2))]).length) Slot.unset).toArray = ls at hl ⊢
  obtain ⟨-, -, hF, hT⟩ := hJ.1.1 i hi
  refine lv_aload_n hx hb (show decode prog_14_method_54_code 0 = .ok (.aload_n 0, 1) by decide +kernel) rfl (lv_at hl 0 rfl) ?_
  refine vk_getf hx hb hF hS hown (hts _ (lwG_of (i := 1825) (by decide +kernel) rfl)) (fun _ h => h) (show decode prog_14_method_54_code 1 = .ok (.getfield 9, 3) by decide +kernel) ?_
  refine va_tlen hx hb hT hS rfl (show decode prog_14_method_54_code 4 = .ok (.arraylength, 1) by decide +kernel) ?_
  refine lv_aload_n hx hb (show decode prog_14_method_54_code 5 = .ok (.aload_n 0, 1) by decide +kernel) rfl (lv_at hl 0 rfl) ?_
  refine jrun (va_runV (As := []) (rest := [.int (Int32.ofNat (kSlen.getD i 0))]) (b := ext (i + 2)) ⟨hx, hb, hml, hown, hts⟩ (j_cod (l := l) (ext := ext) (adV := adV) (A := A) hi) ⟨callB_of 0 hts (jW_good jw_cod) rfl rfl rfl (hts _ (lwG_of (i := 121) (by decide +kernel) rfl)) (hts _ (lwG_of (i := 634) (by decide +kernel) rfl)) ⟨by decide, by decide, by decide +kernel⟩ ⟨Nat.le_of_ble_eq_true rfl, Nat.le_of_ble_eq_true rfl⟩, (hts _ (lwG_of (i := 635) (by decide +kernel) rfl)), (hts _ (lwG_of (i := 636) (by decide +kernel) rfl))⟩ ⟨jPc_blind, vk_recv (adK := fun k => ext (k + 2)) (i := i) hJ.1 hi hS, fun U hU hW => ⟨rfl, by rw [hU]; exact hJ.moved hW.alike⟩⟩ rfl rfl hl.1 rfl (lv_room (Nat.le_of_ble_eq_true rfl)) (show decode prog_14_method_54_code 6 = .ok (.invokevirtual 335, 3) by decide +kernel) ⟨Nat.zero_le _, Nat.zero_le _⟩) (fun _ _ _ q => q) ?_
  refine lv_ishr hx hb (show decode prog_14_method_54_code 9 = .ok (.ishr, 1) by decide +kernel) ?_
  rw [(jln hi).2.1]
  exact W.iret hx hb hr (fun t ht _ => ⟨rfl, ht⟩) (fun q hq => by cases hq) (show decode prog_14_method_54_code 10 = .ok (.ireturn, 1) by decide +kernel) hlocks
theorem j_at {i : Nat} {x : Int32} (hi : i < 11) (hin : vp_in x (kSlen.getD i 0)) : Met l yJ_at (jW yJ_at prog_14_method_56_code 2 (some .char)) (jRm 4) (jPc ext adV A [.ref (ext (i + 2)), .int x]) (jQc (some (.int (jCh i x)))) 0 0 (fun _ => False) := by
  refine Met.ofW (cc := prog_14_method_56_code) (maxL := 2) (ret := (some .char)) (by decide) rfl ?_
  intro p e s m args below meth c s₁ B hml hv
  obtain ⟨rfl, hJ⟩ := hv
  have hts0 := atoms_spec (ws := jW yJ_at prog_14_method_56_code 2 (some .char)) B.pre
  have hts : ∀ w ∈ lwG, w.before _ s = true := fun w hw => hts0 w (List.mem_cons_of_mem _ hw)
  have hown : s.vm.findClass "java/lang/String" = some m.cls := findClass_of_methodNamed B.named
  have hx := B.exec
  have hb := B.bytes
  have hr := B.returns
  have hlocks := B.notSynchronized
  have hS : va_S A s.heap s.heap [] := va_S.rf
  have hl := lv_entry [.ref (ext (i + 2)), .int x] (n := 2) (Nat.le_of_ble_eq_true rfl)
  rw [lg_entry_eq]
  generalize (lg_sl [.ref (ext (i + 2)), .int x] ++ List.replicate (2 - (lg_sl [.ref (ext (i + 2)), .int x]).length) Slot.unset).toArray = ls at hl ⊢
  obtain ⟨-, -, hF, -⟩ := hJ.1.1 i hi
  refine lv_aload_n hx hb (show decode prog_14_method_56_code 0 = .ok (.aload_n 0, 1) by decide +kernel) rfl (lv_at hl 0 rfl) ?_
  refine jrun (va_runV (As := []) (rest := []) (b := ext (i + 2)) ⟨hx, hb, hml, hown, hts⟩ (j_isl (l := l) (ext := ext) (adV := adV) (A := A) hi) ⟨callB_of 0 hts (jW_good jw_isl) rfl rfl rfl (hts _ (lwG_of (i := 121) (by decide +kernel) rfl)) (hts _ (lwG_of (i := 644) (by decide +kernel) rfl)) ⟨by decide, by decide, by decide +kernel⟩ ⟨Nat.le_of_ble_eq_true rfl, Nat.le_of_ble_eq_true rfl⟩, (hts _ (lwG_of (i := 645) (by decide +kernel) rfl)), (hts _ (lwG_of (i := 646) (by decide +kernel) rfl))⟩ ⟨jPc_blind, vk_recv (adK := fun k => ext (k + 2)) (i := i) hJ.1 hi hS, fun U hU hW => ⟨rfl, by rw [hU]; exact hJ.moved hW.alike⟩⟩ rfl rfl hl.1 rfl (lv_room (Nat.le_of_ble_eq_true rfl)) (show decode prog_14_method_56_code 1 = .ok (.invokevirtual 492, 3) by decide +kernel) ⟨Nat.zero_le _, Nat.zero_le _⟩) (fun _ _ _ q => q) ?_
  refine lv_if_eq hx hb (tgt := 16) (show decode prog_14_method_56_code 4 = .ok (.ifCond .eq 12, 3) by decide +kernel) rfl (fun q => absurd q (by decide)) (fun _ => ?_)
  refine lv_aload_n hx hb (show decode prog_14_method_56_code 7 = .ok (.aload_n 0, 1) by decide +kernel) rfl (lv_at hl 0 rfl) ?_
  refine vk_getf hx hb hF hS hown (hts _ (lwG_of (i := 1825) (by decide +kernel) rfl)) (fun _ h => h) (show decode prog_14_method_56_code 8 = .ok (.getfield 9, 3) by decide +kernel) ?_
  refine lv_iload_n hx hb (show decode prog_14_method_56_code 11 = .ok (.iload_n 1, 1) by decide +kernel) rfl (lv_at hl 1 rfl) ?_
  refine jrun (va_runS (As := [.ref (adV i), .int x]) (rest := []) ⟨hx, hb, hml, hown, hts⟩ (j_lat (l := l) (ext := ext) (adV := adV) (A := A) hi hin) ⟨callB_of 2 hts (jW_good jw_lat) rfl rfl rfl (hts _ (lwG_of (i := 122) (by decide +kernel) rfl)) (hts _ (lwG_of (i := 648) (by decide +kernel) rfl)) ⟨by decide, by decide, by decide +kernel⟩ ⟨Nat.le_of_ble_eq_true rfl, Nat.le_of_ble_eq_true rfl⟩, (hts _ (lwG_of (i := 649) (by decide +kernel) rfl))⟩ ⟨jPc_blind, fun U hU hW => ⟨rfl, by rw [hU]; exact hJ.moved hW.alike⟩⟩ rfl rfl hl.1 rfl (lv_room (Nat.le_of_ble_eq_true rfl)) (show decode prog_14_method_56_code 12 = .ok (.invokestatic 495, 3) by decide +kernel) ⟨Nat.zero_le _, Nat.zero_le _⟩) (fun _ _ _ q => q) ?_
  exact W.zret hx hb hr (jch hi hin).2 (fun t ht _ => ⟨rfl, ht⟩) (fun q hq => by cases hq) (show decode prog_14_method_56_code 15 = .ok (.ireturn, 1) by decide +kernel) hlocks
end JMET
