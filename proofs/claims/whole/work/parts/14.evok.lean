/-! what the second machine answers, the first one answers -/
def kFr (d mi : Nat) : Nat := d * 32 + kLvl mi + 8
def kwt (mi : Nat) : List Jvm.Cond := Jvm.Cond.code (kM mi).1 (kM mi).2.1 (kM mi).2.2.1 (kM mi).2.2.2.1 :: lwG
def krm (d mi mc ms : Nat) : Room := { frames := kFr d mi, cells := mc, slots := ms, locals := 40 * kFr d mi }
def kPc (D : va_G) (dA : Nat → ClassId) (b : Nat) (ext adV : Nat → Nat) (vs : List Value) (M : hp) : Array Value → State → Prop := fun v U =>
  v = (vs.map (krn b ext)).toArray ∧ va_P D vwCl (wz dA b ext M) U.heap ∧ U.heap.size = b + hN M ∧ hpOK M ∧ va_K D vwCl (ktys dA) U ∧ (va_AO RX7 U ∧ va_AO RX0 U) ∧ kSF ext adV (fun q : Nat => b ≤ q) U U.heap ∧ ∀ w ∈ kNest, va_Nw w U
def kQc (D : va_G) (dA : Nat → ClassId) (b : Nat) (ext : Nat → Nat) (r : Option Value) (M : hp) : Array Value → State → Outcome → State → Prop := fun _ st o t =>
  o = .returned (r.map (krn b ext)) ∧ va_P D vwCl (wz dA b ext M) t.heap ∧ t.heap.size = b + hN M ∧ hpOK M ∧ va_F (fun q : Nat => b ≤ q) st t
theorem kNw.same {w : Jvm.Cond} (hw : w ∈ kNest) {u U : State} (h : u.vm = U.vm) (hZ : va_Nw w u) : va_Nw w U := by
  obtain ⟨a, i, y, h2, rfl⟩ := kNest_form w hw
  exact va_Nw.same rfl h hZ
theorem kNw.warm {w : Jvm.Cond} (hw : w ∈ kNest) {s U : State} (hW : s.WarmedH U.vm) (hZ : va_Nw w s) : va_Nw w U := by
  obtain ⟨a, i, y, h2, rfl⟩ := kNest_form w hw
  exact va_Nw.warmM hW hZ
theorem kPc_blind {D : va_G} {dA : Nat → ClassId} {b : Nat} {ext adV : Nat → Nat} {vs : List Value} {M : hp} : FrameBlind (kPc D dA b ext adV vs M) := by
  intro a U g mk q
  obtain ⟨q0, q1, q2, q3, q4, q5, q6, q7⟩ := q
  exact ⟨q0, q1, q2, q3, va_K.moved (u := U) (U := U.calling g mk a) (Vm.Alike.refl U.vm) q4, ⟨va_AO.moved (u := U) (U := U.calling g mk a) (Vm.Alike.refl U.vm) q5.1, va_AO.moved (u := U) (U := U.calling g mk a) (Vm.Alike.refl U.vm) q5.2⟩, kSF.same (u := U) (U := U.calling g mk a) rfl q6, fun w hw => kNw.same (u := U) (U := U.calling g mk a) hw rfl (q7 w hw)⟩
theorem kFr_call {d d' mi mj : Nat} (h : dcall d mi mj = some d') (hj : kLvl mj < 20) : kFr d' mj + 1 ≤ kFr d mi := by
  unfold dcall at h
  unfold kFr
  split at h
  · cases h
    omega
  · cases d with
    | zero => cases h
    | succ k =>
      simp only [Option.some.injEq] at h
      subst h
      omega
theorem lva_map {b : Nat} {ext : Nat → Nat} (vs : List Value) : ∀ i : Nat, lv_args i (vs.map (krn b ext)) = (lv_args i vs).map (fun q => (q.1, krn b ext q.2)) := by
  induction vs with
  | nil => intro i; rfl
  | cons v t ih =>
    intro i
    simp only [List.map_cons, lv_args, krn_cat]
    rw [ih]
theorem lgsl_len (vs : List Value) : (lg_sl vs).length = (vs.map (fun v => v.category)).sum := by
  induction vs with
  | nil => rfl
  | cons v t ih =>
    have e : lg_sl (v :: t) = (if v.category = 2 then [.val v, .second] else [.val v]) ++ lg_sl t := by simp [lg_sl]
    rw [e, List.length_append, ih, List.map_cons, List.sum_cons]
    cases v <;> rfl
theorem kcat_map {b : Nat} {ext : Nat → Nat} (r : List Value) : ((r.map (krn b ext)).map (fun v => v.category)) = r.map (fun v => v.category) := by
  rw [List.map_map]
  exact List.map_congr_left fun v _ => krn_cat b ext v
theorem stD_mono {sc : Option (Nat × (Nat → Int32))} {ini : Bool} {o : Nat} {ins : Instr} {st st' : List Value} {M M' : hp} (h : stD sc ini o ins st M = some (st', M')) : hN M ≤ hN M' ∧ hS M ≤ hS M' := by
  have same : ∀ M2 : hp, hN M2 = hN M → hS M2 = hS M → M2 = M' → hN M ≤ hN M' ∧ hS M ≤ hS M' := by
    intro M2 e1 e2 e3
    subst e3
    omega
  have new : ∀ kd len sl : Nat, sNew M kd len sl = M' → hN M ≤ hN M' ∧ hS M ≤ hS M' := by
    intro kd len sl e3
    subst e3
    exact ⟨Nat.le_succ _, Nat.le_add_right _ _⟩
  cases ins <;> simp only [stD] at h <;> (repeat' split at h) <;> first | (cases h; done) | (simp only [Option.some.injEq, Prod.mk.injEq] at h; rw [← h.2]; first | exact ⟨Nat.le_refl _, Nat.le_refl _⟩ | exact ⟨Nat.le_succ _, Nat.le_add_right _ _⟩)
theorem stp_mono {sc : Option (Nat × (Nat → Int32))} {ini : Bool} {o nL : Nat} {ins : Instr} {pc len pc' : Nat} {lv lv' : List (Nat × Value)} {st st' : List Value} {M M' : hp} (h : stp sc ini o nL ins pc len lv st M = some (pc', lv', st', M')) : hN M ≤ hN M' ∧ hS M ≤ hS M' := by
  unfold stp at h
  split at h
  · simp only [Option.some.injEq, Prod.mk.injEq] at h
    obtain ⟨-, -, -, rfl⟩ := h
    exact ⟨Nat.le_refl _, Nat.le_refl _⟩
  · split at h
    · simp only [Option.some.injEq, Prod.mk.injEq] at h
      obtain ⟨-, -, -, rfl⟩ := h
      exact ⟨Nat.le_refl _, Nat.le_refl _⟩
    · split at h
      · simp only [Option.some.injEq, Prod.mk.injEq] at h
        obtain ⟨-, -, -, rfl⟩ := h
        exact ⟨Nat.le_refl _, Nat.le_refl _⟩
      · split at h
        · rename_i h1
          simp only [Option.some.injEq, Prod.mk.injEq] at h
          obtain ⟨-, -, -, rfl⟩ := h
          exact stD_mono h1
        · cases h
theorem ev_mono : ∀ (n d mi pc : Nat) (sc : Option (Nat × (Nat → Int32))) (lv : List (Nat × Value)) (st : List Value) (M : hp) (r : Option Value) (M' : hp), ev sc n d mi pc lv st M = some (r, M') → hN M ≤ hN M' ∧ hS M ≤ hS M' := by
  intro n
  induction n with
  | zero => intro d mi pc sc lv st M r M' h; simp [ev] at h
  | succ n ih =>
    intro d mi pc sc lv st M r M' h
    simp only [ev] at h
    split at h
    · cases h
    · split at h
      · split at h
        · split at h
          · split at h
            · rename_i h1
              have a1 := ih _ _ _ _ _ _ _ _ _ h1
              have a2 := ih _ _ _ _ _ _ _ _ _ h
              omega
            · cases h
          · cases h
        · cases h
      · split at h
        · split at h
          · simp only [Option.some.injEq, Prod.mk.injEq] at h
            obtain ⟨-, rfl⟩ := h
            exact ⟨Nat.le_refl _, Nat.le_refl _⟩
          · cases h
        · split at h
          · rename_i h1
            have a1 := stp_mono h1
            have a2 := ih _ _ _ _ _ _ _ _ _ h
            omega
          · cases h
theorem kat_raw {mi pc : Nat} {ins : Instr} {len : Nat} {k : Option Nat} (h : kat mi pc = some (ins, len, k)) (hmi : mi < 273) : ∃ ri, decode (kM mi).2.1 pc = .ok (ri, len) ∧ kres (kOwn mi) ri ins = true ∧ klen ri len = true := by
  have hq : kMs[mi]? = some (kM mi) := by
    unfold kM
    rw [List.getD_eq_getElem?_getD, List.getElem?_eq_getElem (by rw [kMs_len]; exact hmi)]
    rfl
  obtain ⟨R, C, h1, h2⟩ := kD_all mi _ hq
  unfold kat at h
  rw [h1] at h
  simp only at h
  split at h
  · rename_i x hx
    subst h
    obtain ⟨ri, g1, g2, g3⟩ := kchk_get R C 0 h2 pc ins len k hx
    rw [Nat.zero_add] at g1
    exact ⟨ri, g1, g2, g3⟩
  · cases h
theorem knx_mem {mi pc : Nat} {lv : List (Nat × Value)} : ∀ q ∈ knx mi pc lv, q ∈ lv := by
  intro q hq
  unfold knx at hq
  split at hq
  · unfold kkeep at hq
    split at hq
    · exact hq
    · exact (List.mem_filter.mp hq).1
  · exact hq
theorem kwt_good {mj : Nat} (h : Jvm.Cond.code (kM mj).1 (kM mj).2.1 (kM mj).2.2.1 (kM mj).2.2.2.1 ∈ lwG) : GoodIn lwG (kwt mj) := by
  intro w hw
  rcases List.mem_cons.mp hw with rfl | hw
  · exact ⟨h, good_of_word rfl⟩
  · exact ⟨hw, good_of_word (List.all_eq_true.mp lwG_good w hw)⟩
theorem kIni_ok : (List.range 273).all (fun mi => !(kIni mi) || decide ((kM mi).1.name = "<init>")) = true := by decide +kernel
/-- the facts of a method of the tables -/
theorem kmx_all {mi : Nat} (h : mi < 273) : (mi ≠ 272 → Jvm.Cond.code (kM mi).1 (kM mi).2.1 (kM mi).2.2.1 (kM mi).2.2.2.1 ∈ lwG) ∧ Jvm.Cond.initialized (kM mi).1.cls ∈ lwG ∧ ((kMx.getD mi (0, 0, 0, 0, 0)).2.2.1 ≠ 99999 → Jvm.Cond.instanceMethod (kM mi).1 ∈ lwG) ∧ ((kMx.getD mi (0, 0, 0, 0, 0)).2.2.2.1 ≠ 99999 → Jvm.Cond.selects (kM mi).1.cls (kM mi).1 (kM mi).1 ∈ lwG) ∧ ((kMx.getD mi (0, 0, 0, 0, 0)).2.2.2.2 ≠ 99999 → Jvm.Cond.static (kM mi).1 ∈ lwG) ∧
    ((kM mi).1.cls ≠ "java/lang/invoke/MethodHandle" ∧ (kM mi).1.cls ≠ "java/lang/invoke/VarHandle") ∧ (kM mi).1.cls = kOn (kOwn mi) ∧ (parseMethodDescriptor (kM mi).1.desc).map (fun d => d.parameters.length + (if (kMx.getD mi (0, 0, 0, 0, 0)).2.2.2.2 = 99999 ∧ mi ≠ 272 then 1 else 0)) = some (kNA mi) ∧ (kM mi).2.2.1 ≤ 20 ∧ kLvl mi < 20 ∧ plainName (kM mi).1.cls = true := by
  have h1 := kMx_ok mi h
  unfold kmx at h1
  simp only [Bool.and_eq_true, decide_eq_true_eq, Bool.or_eq_true, beq_iff_eq] at h1
  obtain ⟨⟨⟨⟨⟨⟨⟨⟨⟨⟨⟨a1, a2⟩, a3⟩, a4⟩, a5⟩, a6⟩, a7⟩, a8⟩, a9⟩, a10⟩, a11⟩, a12⟩ := h1
  refine ⟨fun q => ?_, lwG_of a2 rfl, fun q => ?_, fun q => ?_, fun q => ?_, a6, a7, a8, a9, a10, a11⟩
  · rcases a1 with a1 | a1
    · exact absurd a1 q
    · exact lwG_of a1 rfl
  · rcases a3 with a3 | a3
    · exact absurd a3 q
    · exact lwG_of a3 rfl
  · rcases a4 with a4 | a4
    · exact absurd a4 q
    · exact lwG_of a4 rfl
  · rcases a5 with a5 | a5
    · exact absurd a5 q
    · exact lwG_of a5 rfl
def evOK (l : Launch) (D : va_G) (dA : Nat → ClassId) (b : Nat) (ext adV : Nat → Nat) (n : Nat) : Prop :=
  ∀ (d mi pc : Nat) (sc : Option (Nat × (Nat → Int32))) (lv : List (Nat × Value)) (st : List Value) (M : hp) (r : Option Value) (M' : hp), ev sc n d mi pc lv st M = some (r, M') → mi < 273 →
  ∀ (p : Program) (e : Env) (R : Room) (s : State) (m : MethodId) (args : Array Value) (below : List Frame) (meth : Method) (c : Code) (H : Heap) (locs : List Loc) (cells slots : Nat) (Q : State → Prop) (ls : Array Slot) (N0 S0 : Nat),
    kCtx D dA b ext adV sc p R s m args meth c mi → kInv D dA b ext s N0 S0 M H locs cells slots → kLv b ext ls (kM mi).2.2.1 lv → kFr d mi ≤ R.frames → 40 * kFr d mi ≤ R.locals → hN M' - N0 ≤ R.cells ∧ hS M' - S0 ≤ R.slots →
    (∀ (pc2 : Nat) (ls2 : Array Slot) (st2 : List Value) (H2 : Heap) (locs2 : List Loc) (cells2 slots2 : Nat) (ins : Instr) (len : Nat) (k : Option Nat), kat mi pc2 = some (ins, len, k) → kisret ins = true → kretv (kRet mi) ins st2 = some r → kInv D dA b ext s N0 S0 M' H2 locs2 cells2 slots2 → W p l e R s m args below meth c H2 locs2 cells2 slots2 Q (F0 m pc2 ls2 (st2.map (krn b ext)))) →
    W p l e R s m args below meth c H locs cells slots Q (F0 m pc ls (st.map (krn b ext)))
