/-! one step of the second machine is one instruction of the first -/
def ktys (dA : Nat → ClassId) : List (ClassId × FieldType) := [(dA 0, .int), (dA 1, .long), (dA 2, .boolean), (dA 3, .object RX7), (dA 4, .object RX0)]
def kInv (D : va_G) (dA : Nat → ClassId) (b : Nat) (ext : Nat → Nat) (s : State) (N0 S0 : Nat) (M : hp) (H : Heap) (locs : List Loc) (cells slots : Nat) : Prop :=
  va_P D vwCl (wz dA b ext M) H ∧ H.size = b + hN M ∧ hpOK M ∧ va_S (fun q : Nat => b ≤ q) s.heap H locs ∧ (N0 ≤ hN M ∧ cells = hN M - N0) ∧ (S0 ≤ hS M ∧ slots = hS M - S0)
def kCtx (D : va_G) (dA : Nat → ClassId) (b : Nat) (ext adV : Nat → Nat) (sc : Option (Nat × (Nat → Int32))) (p : Program) (R : Room) (s : State) (m : MethodId) (args : Array Value) (meth : Method) (c : Code) (mi : Nat) : Prop :=
  p.tables.exec = Jvm.exec ∧ c.code = (kM mi).2.1 ∧ meth.sig.returnType = kRet mi ∧ c.maxLocals = (kM mi).2.2.1 ∧ s.vm.findClass (kOn (kOwn mi)) = some m.cls ∧ (∀ w ∈ lwG, w.before args s = true) ∧ (∀ w ∈ kNest, va_Nw w s) ∧ meth.locks = false ∧ (kIni mi = true → meth.name = "<init>") ∧ va_K D vwCl (ktys dA) s ∧ (va_AO RX7 s ∧ va_AO RX0 s) ∧ b ≤ s.heap.size ∧ kSF ext adV (fun q : Nat => b ≤ q) s s.heap ∧ (∀ n f, sc = some (n, f) → va_X (ext 1) n f s s.heap ∧ ext 1 < s.heap.size ∧ ext 1 < b) ∧ 8 ≤ R.frames ∧ 300 ≤ R.locals
def kLv (b : Nat) (ext : Nat → Nat) (ls : Array Slot) (n : Nat) (lv : List (Nat × Value)) : Prop := lv_has ls n (lv.map (fun q => (q.1, krn b ext q.2)))
theorem krn_cat (b : Nat) (ext : Nat → Nat) (v : Value) : (krn b ext v).category = v.category := by cases v <;> rfl
theorem kLv.sub {b : Nat} {ext : Nat → Nat} {ls : Array Slot} {n : Nat} {lv lv' : List (Nat × Value)} (h : kLv b ext ls n lv) (hs : ∀ q ∈ lv', q ∈ lv) : kLv b ext ls n lv' :=
  ⟨h.1, h.2.1, fun q hq => by
    obtain ⟨x, hx, rfl⟩ := List.mem_map.mp hq
    exact h.2.2 _ (List.mem_map.mpr ⟨x, hs x hx, rfl⟩)⟩
theorem lget_mem {lv : List (Nat × Value)} {i : Nat} {v : Value} (h : lget lv i = some v) : (i, v) ∈ lv := by
  unfold lget at h
  induction lv with
  | nil => simp at h
  | cons q t ih =>
    obtain ⟨k, w⟩ := q
    rw [List.lookup_cons] at h
    by_cases e : i = k
    · subst e
      simp at h
      subst h
      exact List.mem_cons_self
    · have e2 : (i == k) = false := by simpa using e
      rw [e2] at h
      exact List.mem_cons_of_mem _ (ih h)
theorem kLv.get {b : Nat} {ext : Nat → Nat} {ls : Array Slot} {n : Nat} {lv : List (Nat × Value)} (h : kLv b ext ls n lv) {i : Nat} {v : Value} (hg : lget lv i = some v) : ls[i]? = some (.val (krn b ext v)) :=
  h.2.2 _ (List.mem_map.mpr ⟨_, lget_mem hg, rfl⟩)
theorem lins_mem {i : Nat} {v : Value} {lv : List (Nat × Value)} {q : Nat × Value} (h : q ∈ lins i v lv) : q = (i, v) ∨ q ∈ lv := by
  induction lv with
  | nil => simp [lins] at h; exact Or.inl h
  | cons x t ih =>
    unfold lins at h
    split at h
    · rcases List.mem_cons.mp h with h | h
      · exact Or.inl h
      · exact Or.inr h
    · rcases List.mem_cons.mp h with h | h
      · exact Or.inr (h ▸ List.mem_cons_self)
      · rcases ih h with h | h
        · exact Or.inl h
        · exact Or.inr (List.mem_cons_of_mem _ h)
theorem kLv.st1 {b : Nat} {ext : Nat → Nat} {ls : Array Slot} {n i : Nat} {v : Value} {lv : List (Nat × Value)}
    (h : lv_has ls n ((i, krn b ext v) :: (lv.map (fun q => (q.1, krn b ext q.2))).filter (fun q => !(q.1 == i) && !(q.1 + 1 == i && q.2.category == 2)))) : kLv b ext ls n (lst1 i v lv) :=
  ⟨h.1, h.2.1, fun q hq => by
    obtain ⟨x, hx, rfl⟩ := List.mem_map.mp hq
    rcases lins_mem hx with rfl | hx
    · exact h.2.2 _ List.mem_cons_self
    · obtain ⟨h1, h2⟩ := List.mem_filter.mp hx
      refine h.2.2 _ (List.mem_cons_of_mem _ (List.mem_filter.mpr ⟨List.mem_map.mpr ⟨x, h1, rfl⟩, ?_⟩))
      simpa [krn_cat] using h2⟩
theorem kLv.st2 {b : Nat} {ext : Nat → Nat} {ls : Array Slot} {n i : Nat} {v : Value} {lv : List (Nat × Value)}
    (h : lv_has ls n ((i, krn b ext v) :: (lv.map (fun q => (q.1, krn b ext q.2))).filter (fun q => !(q.1 == i) && (!(q.1 == i + 1) && !(q.1 + 1 == i && q.2.category == 2))))) : kLv b ext ls n (lst2 i v lv) :=
  ⟨h.1, h.2.1, fun q hq => by
    obtain ⟨x, hx, rfl⟩ := List.mem_map.mp hq
    rcases lins_mem hx with rfl | hx
    · exact h.2.2 _ List.mem_cons_self
    · obtain ⟨h1, h2⟩ := List.mem_filter.mp hx
      refine h.2.2 _ (List.mem_cons_of_mem _ (List.mem_filter.mpr ⟨List.mem_map.mpr ⟨x, h1, rfl⟩, ?_⟩))
      simpa [krn_cat] using h2⟩
theorem kLv.lt {b : Nat} {ext : Nat → Nat} {ls : Array Slot} {n : Nat} {lv : List (Nat × Value)} (h : kLv b ext ls n lv) {i : Nat} {v : Value} (hg : lget lv i = some v) : i < n := by
  have := (Array.getElem?_eq_some_iff.mp (h.get hg)).1
  rw [h.1] at this
  exact this
/-- instructions whose told form is their own -/
def kplain : Instr → Bool
  | .getfield _ => false
  | .putfield _ => false
  | .invokevirtual _ => false
  | .invokestatic _ => false
  | .invokespecial _ => false
  | .new _ => false
  | .anewarray _ => false
  | .ldc _ => false
  | .ldc_w _ => false
  | .ldc2_w _ => false
  | .iconst _ => false
  | _ => true
theorem kres_plain {o : Nat} {ri ins : Instr} (h : kres o ri ins = true) (hp : kplain ins = true) : ri = ins := by
  unfold kres at h
  split at h
  all_goals first | (split at h <;> first | (simp [kplain] at hp; done) | (cases h; done)) | exact of_decide_eq_true h
theorem kres_iconst {o : Nat} {ri : Instr} {v : Int} (h : kres o ri (.iconst v) = true) : ri = .iconst v ∨ (∃ i, ri = .ldc i ∧ khasI kKI o i v = true) ∨ (∃ i, ri = .ldc_w i ∧ khasI kKI o i v = true) := by
  cases ri <;> first | exact Or.inr (Or.inl ⟨_, rfl, h⟩) | exact Or.inr (Or.inr ⟨_, rfl, h⟩) | exact Or.inl (by simpa [kres] using h)
theorem kres_ldc {o : Nat} {ri : Instr} {n : Nat} (h : kres o ri (.ldc n) = true) : ∃ i, ri = .ldc i ∧ khas kKS o i n = true := by
  cases ri <;> first | exact ⟨_, rfl, h⟩ | exact absurd h (by simp [kres])
theorem kres_ldc2 {o : Nat} {ri : Instr} {n : Nat} (h : kres o ri (.ldc2_w n) = true) : ∃ i, ri = .ldc2_w i ∧ khas kKJ o i n = true := by
  cases ri <;> first | exact ⟨_, rfl, h⟩ | exact absurd h (by simp [kres])
theorem kres_getf {o : Nat} {ri : Instr} {n : Nat} (h : kres o ri (.getfield n) = true) : ∃ i, ri = .getfield i ∧ khas kKF o i n = true := by
  cases ri <;> first | exact ⟨_, rfl, h⟩ | exact absurd h (by simp [kres])
theorem kres_putf {o : Nat} {ri : Instr} {n : Nat} (h : kres o ri (.putfield n) = true) : ∃ i, ri = .putfield i ∧ khas kKF o i n = true := by
  cases ri <;> first | exact ⟨_, rfl, h⟩ | exact absurd h (by simp [kres])
theorem kres_new {o : Nat} {ri : Instr} {n : Nat} (h : kres o ri (.new n) = true) : ∃ i, ri = .new i ∧ khas kKC o i n = true := by
  cases ri <;> first | exact ⟨_, rfl, h⟩ | exact absurd h (by simp [kres])
theorem kres_anew {o : Nat} {ri : Instr} {n : Nat} (h : kres o ri (.anewarray n) = true) : ∃ i, ri = .anewarray i ∧ khas kKC o i n = true := by
  cases ri <;> first | exact ⟨_, rfl, h⟩ | exact absurd h (by simp [kres])
theorem kres_invV {o : Nat} {ri : Instr} {n : Nat} (h : kres o ri (.invokevirtual n) = true) : ∃ i, ri = .invokevirtual i ∧ khas kKM o i n = true ∧ (n / 1000 = 0 ∨ n / 1000 = 1 ∨ n = 7000 ∨ n = 8000) := by
  cases ri <;> first | exact ⟨_, rfl, by simpa [kres, or_assoc] using h⟩ | exact absurd h (by simp [kres])
theorem kres_invS {o : Nat} {ri : Instr} {n : Nat} (h : kres o ri (.invokestatic n) = true) : ∃ i, ri = .invokestatic i ∧ khas kKM o i n = true ∧ (n / 1000 = 2 ∨ n / 1000 = 3 ∨ n / 1000 = 9) := by
  cases ri <;> first | exact ⟨_, rfl, by simpa [kres, or_assoc] using h⟩ | exact absurd h (by simp [kres])
theorem kres_invI {o : Nat} {ri : Instr} {n : Nat} (h : kres o ri (.invokespecial n) = true) : ∃ i, ri = .invokespecial i ∧ khas kKM o i n = true ∧ (n / 1000 = 4 ∨ n / 1000 = 5 ∨ n = 6000) := by
  cases ri <;> first | exact ⟨_, rfl, by simpa [kres, or_assoc] using h⟩ | exact absurd h (by simp [kres])
theorem khas_e {T : List (Nat × Nat × Nat × Nat)} {o i n : Nat} (h : khas T o i n = true) : ∃ w, (o, i, w, n) ∈ T := by
  obtain ⟨e, he, h1⟩ := List.any_eq_true.mp h
  obtain ⟨a, b, w, d⟩ := e
  simp only [Bool.and_eq_true, beq_iff_eq] at h1
  obtain ⟨⟨rfl, rfl⟩, rfl⟩ := h1
  exact ⟨w, he⟩
theorem khasI_e {T : List (Nat × Nat × Nat × Int)} {o i : Nat} {n : Int} (h : khasI T o i n = true) : ∃ w, (o, i, w, n) ∈ T := by
  obtain ⟨e, he, h1⟩ := List.any_eq_true.mp h
  obtain ⟨a, b, w, d⟩ := e
  simp only [Bool.and_eq_true, beq_iff_eq] at h1
  obtain ⟨⟨rfl, rfl⟩, rfl⟩ := h1
  exact ⟨w, he⟩
theorem khas_F {o i n : Nat} (h : khas kKF o i n = true) : Jvm.Cond.fieldLink (kOn o) i (kcls (n / 100)).1 ((kcls (n / 100)).2.1 (n % 100)).2.1 ((kcls (n / 100)).2.1 (n % 100)).2.2.1 ∈ lwG := by
  obtain ⟨w, he⟩ := khas_e h
  exact lwG_of (of_decide_eq_true (List.all_eq_true.mp kKF_ok _ he)) rfl
theorem khas_I {o i : Nat} {v : Int} (h : khasI kKI o i v = true) : Jvm.Cond.constant (kOn o) i (Int32.ofInt v) ∈ lwG := by
  obtain ⟨w, he⟩ := khasI_e h
  exact lwG_of (of_decide_eq_true (List.all_eq_true.mp kKI_ok _ he)) rfl
theorem khas_J {o i n : Nat} (h : khas kKJ o i n = true) : Jvm.Cond.constantLong (kOn o) i (kJs.getD n 0) ∈ lwG := by
  obtain ⟨w, he⟩ := khas_e h
  exact lwG_of (of_decide_eq_true (List.all_eq_true.mp kKJ_ok _ he)) rfl
theorem khas_C {o i n : Nat} (h : khas kKC o i n = true) : Jvm.Cond.classLink (kOn o) i (if n = 23 then RX7 else if n = 24 then RX0 else (kcls n).1) ∈ lwG := by
  obtain ⟨w, he⟩ := khas_e h
  have h2 := List.all_eq_true.mp kKC_ok _ he
  rw [Bool.and_eq_true] at h2
  exact lwG_of (of_decide_eq_true h2.1) rfl
theorem khas_M {o i n : Nat} (h : khas kKM o i n = true) : ∃ w, (o, i, w, n) ∈ kKM ∧ lw_tbl[w]? = some (kwM (o, i, w, n)) := by
  obtain ⟨w, he⟩ := khas_e h
  exact ⟨w, he, of_decide_eq_true (List.all_eq_true.mp kKM_ok _ he)⟩
section KSA
variable {p : Program} {l : Launch} {e : Env} {R : Room} {s : State} {m : MethodId} {args : Array Value} {below : List Frame} {meth : Method} {c : Code} {H : Heap} {locs : List Loc} {cells slots : Nat} {Q : State → Prop} {pc len : Nat} {ls : Array Slot} {D : va_G} {dA : Nat → ClassId} {b : Nat} {ext adV : Nat → Nat} {sc : Option (Nat × (Nat → Int32))} {mi : Nat} {ri ins : Instr}
/-- length() and charAt() of a text of the code -/
theorem str_len (C0 : kCtx D dA b ext adV sc p R s m args meth c mi) {i q : Nat} (hq : 2 ≤ q ∧ q < 13) (hd : decode (kM mi).2.1 pc = .ok (.invokevirtual i, 3)) (hk : khas kKM (kOwn mi) i 7000 = true) (hS : va_S (fun q : Nat => b ≤ q) s.heap H locs) (hsz : ls.size = c.maxLocals) (hcs : cells ≤ R.cells ∧ slots ≤ R.slots) {r : List Value} (hr : (r.map (fun v => v.category)).sum ≤ 8)
    (kk : W p l e R s m args below meth c H locs cells slots Q (F0 m (pc + 3) ls (.int (Int32.ofNat (kSs.getD q []).length) :: r))) : W p l e R s m args below meth c H locs cells slots Q (F0 m pc ls (.ref (ext q) :: r)) := by
  obtain ⟨hx, hb, hr', hml, hown, hts, hnest, hlocks, hini, hKs, hAO, hbs, hSF, hsc, hfr, hlo⟩ := C0
  obtain ⟨w, -, hw⟩ := khas_M hk
  have hJ : jS ext adV (fun q : Nat => b ≤ q) s s.heap := ⟨hSF.2.1, hSF.2.2.1, hSF.2.2.2⟩
  have hl : (Jvm.Cond.methodLink (kOn (kOwn mi)) i yJ_len).before args s = true := hts _ (lwG_of (w := Jvm.Cond.methodLink (kOn (kOwn mi)) i yJ_len) hw rfl)
  obtain ⟨j, rfl⟩ : ∃ j, q = j + 2 := ⟨q - 2, by omega⟩
  have hi : j < 11 := by omega
  refine jrun (v := some (.int (jLn j))) (va_runV (As := []) (rest := r) (b := ext (j + 2)) ⟨hx, hb, hml, hown, hts⟩ (j_len (l := l) (ext := ext) (adV := adV) (A := fun q : Nat => b ≤ q) hi) ⟨callB_of 0 hts (jW_good jw_len) rfl rfl rfl (hts _ (lwG_of (i := 121) (by decide +kernel) rfl)) hl ⟨by decide, by decide, by decide +kernel⟩ ⟨by show 2 + 1 ≤ R.frames; omega, by show 8 + (1 + 11) + 30 * 2 ≤ R.locals; omega⟩, (hts _ (lwG_of (i := 631) (by decide +kernel) rfl)), (hts _ (lwG_of (i := 632) (by decide +kernel) rfl))⟩ ⟨jPc_blind, vk_recv (adK := fun k => ext (k + 2)) (i := j) hJ.1 hi hS, fun U hU hW => ⟨rfl, by rw [hU]; exact (hJ.kept hS.2.1).moved hW.alike⟩⟩ rfl rfl (hsz.trans hml) rfl (lv_room hr) hd ⟨hcs.1, hcs.2⟩) (fun _ _ _ q => q) kk
theorem str_chr (C0 : kCtx D dA b ext adV sc p R s m args meth c mi) {i q : Nat} {x : Int32} (hq : 2 ≤ q ∧ q < 13) (hin : vin x (kSs.getD q []).length = true) (hd : decode (kM mi).2.1 pc = .ok (.invokevirtual i, 3)) (hk : khas kKM (kOwn mi) i 8000 = true) (hS : va_S (fun q : Nat => b ≤ q) s.heap H locs) (hsz : ls.size = c.maxLocals) (hcs : cells ≤ R.cells ∧ slots ≤ R.slots) {r : List Value} (hr : (r.map (fun v => v.category)).sum ≤ 8)
    (kk : W p l e R s m args below meth c H locs cells slots Q (F0 m (pc + 3) ls (.int (Int32.ofNat ((kSs.getD q []).getD x.toNatClampNeg 0)) :: r))) : W p l e R s m args below meth c H locs cells slots Q (F0 m pc ls (.int x :: .ref (ext q) :: r)) := by
  obtain ⟨hx, hb, hr', hml, hown, hts, hnest, hlocks, hini, hKs, hAO, hbs, hSF, hsc, hfr, hlo⟩ := C0
  obtain ⟨w, -, hw⟩ := khas_M hk
  have hJ : jS ext adV (fun q : Nat => b ≤ q) s s.heap := ⟨hSF.2.1, hSF.2.2.1, hSF.2.2.2⟩
  have hl : (Jvm.Cond.methodLink (kOn (kOwn mi)) i yJ_at).before args s = true := hts _ (lwG_of (w := Jvm.Cond.methodLink (kOn (kOwn mi)) i yJ_at) hw rfl)
  obtain ⟨j, rfl⟩ : ∃ j, q = j + 2 := ⟨q - 2, by omega⟩
  have hi : j < 11 := by omega
  have hvin : vp_in x (kSlen.getD j 0) := by
    rw [(jln hi).1]
    have h9 : ¬ (x < 0 ∨ (kSs.getD (j + 2) []).length ≤ x.toNatClampNeg) := of_decide_eq_true hin
    exact h9
  refine jrun (v := some (.int (jCh j x))) (va_runV (As := [.int x]) (rest := r) (b := ext (j + 2)) ⟨hx, hb, hml, hown, hts⟩ (j_at (l := l) (ext := ext) (adV := adV) (A := fun q : Nat => b ≤ q) hi hvin) ⟨callB_of 1 hts (jW_good jw_at) rfl rfl rfl (hts _ (lwG_of (i := 121) (by decide +kernel) rfl)) hl ⟨by decide, by decide, by decide +kernel⟩ ⟨by show 4 + 1 ≤ R.frames; omega, by show 8 + (2 + 11) + 30 * 4 ≤ R.locals; omega⟩, (hts _ (lwG_of (i := 641) (by decide +kernel) rfl)), (hts _ (lwG_of (i := 642) (by decide +kernel) rfl))⟩ ⟨jPc_blind, vk_recv (adK := fun k => ext (k + 2)) (i := j) hJ.1 hi hS, fun U hU hW => ⟨rfl, by rw [hU]; exact (hJ.kept hS.2.1).moved hW.alike⟩⟩ rfl rfl (hsz.trans hml) rfl (lv_room hr) hd ⟨hcs.1, hcs.2⟩) (fun _ _ _ q => q) kk
theorem stA_ok (C0 : kCtx D dA b ext adV sc p R s m args meth c mi) (hd : decode (kM mi).2.1 pc = .ok (ri, len)) (hres : kres (kOwn mi) ri ins = true) (hlen : klen ri len = true) {st st' : List Value} (h : stA ins st = some st') (hS : va_S (fun q : Nat => b ≤ q) s.heap H locs) (hsz : ls.size = c.maxLocals) (hcs : cells ≤ R.cells ∧ slots ≤ R.slots)
    (kk : W p l e R s m args below meth c H locs cells slots Q (F0 m (pc + len) ls (st'.map (krn b ext)))) : W p l e R s m args below meth c H locs cells slots Q (F0 m pc ls (st.map (krn b ext))) := by
  have C1 := C0
  obtain ⟨hx, hb, hr, hml, hown, hts, hnest, hlocks, hini, hK, hAO, hbs, hSF, hsc, hfr, hlo⟩ := C0
  cases ins
  case iconst v =>
    simp only [stA, Option.some.injEq] at h
    subst h
    rcases kres_iconst hres with rfl | ⟨i, rfl, hi⟩ | ⟨i, rfl, hi⟩
    · have e : len = 1 := by simpa [klen] using hlen
      subst e
      exact lv_iconst hx hb hd rfl kk
    · have e : len = 2 := by simpa [klen] using hlen
      subst e
      exact lv_ldc hx hb hown (hts _ (khas_I hi)) hd kk
    · have e : len = 3 := by simpa [klen] using hlen
      subst e
      exact lv_ldcw hx hb hown (hts _ (khas_I hi)) hd kk
  case ldc n =>
    simp only [stA, Option.some.injEq] at h
    subst h
    obtain ⟨i, rfl, hi⟩ := kres_ldc hres
    have e : len = 2 := by simpa [klen] using hlen
    subst e
    obtain ⟨w, he⟩ := khas_e hi
    have h2 := List.all_eq_true.mp kKS_ok _ he
    simp only [Bool.and_eq_true, decide_eq_true_eq] at h2
    have h3 := hSF.1 _ he
    refine va_ldcS hx hb hown h3 hd ?_
    have e2 : krn b ext (.ref n) = .ref (ext n) := by
      show Value.ref (kad b ext n) = _
      unfold kad
      rw [if_pos (by omega)]
    rw [List.map_cons, e2] at kk
    exact kk
  case ldc2_w n =>
    simp only [stA, Option.some.injEq] at h
    subst h
    obtain ⟨i, rfl, hi⟩ := kres_ldc2 hres
    have e : len = 3 := by simpa [klen] using hlen
    subst e
    exact lv_ldc2 hx hb hown (hts _ (khas_J hi)) hd kk
  case invokespecial n =>
    simp only [stA] at h
    split at h
    · rename_i q r
      split at h
      · rename_i hn
        simp only [Option.some.injEq] at h
        subst h
        obtain ⟨rfl, hr8⟩ := hn
        obtain ⟨i, rfl, hi, -⟩ := kres_invI hres
        have e : len = 3 := by simpa [klen] using hlen
        subst e
        obtain ⟨w, he, hw⟩ := khas_M hi
        have h1 : Jvm.Cond.methodLink (kOn (kOwn mi)) i objectInit ∈ lwG := lwG_of hw rfl
        refine W.objInit hx hb hown (hts _ h1) (hts _ (lwG_of (i := 131) (by decide +kernel) rfl)) (hts _ (lwG_of (i := 132) (by decide +kernel) rfl)) rfl hsz rfl hd (by omega) ?_ kk
        have e3 : ((r.map (krn b ext)).map (fun v => v.category)) = r.map (fun v => v.category) := by
          rw [List.map_map]
          exact List.map_congr_left fun v _ => krn_cat b ext v
        show 2 * 0 + _ + 12 ≤ _
        rw [e3]
        omega
      · cases h
    · cases h
  case invokestatic n =>
    obtain ⟨i, rfl, hi, -⟩ := kres_invS hres
    have e : len = 3 := by simpa [klen] using hlen
    subst e
    obtain ⟨w, he, hw⟩ := khas_M hi
    have e3 : ∀ r : List Value, ((r.map (krn b ext)).map (fun v => v.category)) = r.map (fun v => v.category) := by
      intro r
      rw [List.map_map]
      exact List.map_congr_left fun v _ => krn_cat b ext v
    have hini2 := hts _ (lwG_of (w := Jvm.Cond.initialized "java/lang/Math") (i := 119) (by decide +kernel) rfl)
    simp only [stA] at h
    split at h
    · rename_i y x r
      split at h
      · rename_i hr8
        split at h
        · rename_i hn
          subst hn
          simp only [Option.some.injEq] at h
          subst h
          have h1 : Jvm.Cond.methodLink (kOn (kOwn mi)) i Lib.Math.max.name ∈ lwG := lwG_of hw rfl
          exact va_mmax hx hb hsz.symm hown (hts _ h1) (hts _ (lwG_of (i := 521) (by decide +kernel) rfl)) hini2 (hts _ (lwG_of (i := 522) (by decide +kernel) rfl)) (by omega) (by rw [e3]; omega) hcs.1 hcs.2 hd kk
        · split at h
          · rename_i hn
            subst hn
            simp only [Option.some.injEq] at h
            subst h
            have h1 : Jvm.Cond.methodLink (kOn (kOwn mi)) i Lib.Math.min.name ∈ lwG := lwG_of hw rfl
            exact va_mmin hx hb hsz.symm hown (hts _ h1) (hts _ (lwG_of (i := 463) (by decide +kernel) rfl)) hini2 (hts _ (lwG_of (i := 464) (by decide +kernel) rfl)) (by omega) (by rw [e3]; omega) hcs.1 hcs.2 hd kk
          · cases h
      · cases h
    · rename_i y x r
      split at h
      · rename_i hr8
        split at h
        · rename_i hn
          subst hn
          simp only [Option.some.injEq] at h
          subst h
          have h1 : Jvm.Cond.methodLink (kOn (kOwn mi)) i Lib.MathLoose.max_long.x ∈ lwG := lwG_of hw rfl
          exact va_mmax_long hx hb hsz.symm hown (hts _ h1) (hts _ (lwG_of (i := 539) (by decide +kernel) rfl)) hini2 (hts _ (lwG_of (i := 540) (by decide +kernel) rfl)) (by omega) (by rw [e3]; omega) hcs.1 hcs.2 hd kk
        · split at h
          · rename_i hn
            subst hn
            simp only [Option.some.injEq] at h
            subst h
            have h1 : Jvm.Cond.methodLink (kOn (kOwn mi)) i Lib.MathLoose.min_long.x ∈ lwG := lwG_of hw rfl
            exact va_mmin_long hx hb hsz.symm hown (hts _ h1) (hts _ (lwG_of (i := 536) (by decide +kernel) rfl)) hini2 (hts _ (lwG_of (i := 537) (by decide +kernel) rfl)) (by omega) (by rw [e3]; omega) hcs.1 hcs.2 hd kk
          · cases h
      · cases h
    · cases h
  case invokevirtual n =>
    obtain ⟨i, rfl, hi, -⟩ := kres_invV hres
    have e : len = 3 := by simpa [klen] using hlen
    subst e
    have e3 : ∀ r : List Value, ((r.map (krn b ext)).map (fun v => v.category)) = r.map (fun v => v.category) := by
      intro r
      rw [List.map_map]
      exact List.map_congr_left fun v _ => krn_cat b ext v
    have e2 : ∀ q : Nat, q < 13 → krn b ext (.ref q) = .ref (ext q) := by
      intro q hq
      show Value.ref (kad b ext q) = _
      unfold kad
      rw [if_pos (by omega)]
    simp only [stA] at h
    split at h
    · rename_i q r
      split at h
      · rename_i hn
        simp only [Option.some.injEq] at h
        subst h
        obtain ⟨rfl, h2, h3, h4⟩ := hn
        rw [List.map_cons, e2 q h3]
        exact str_len C1 ⟨h2, h3⟩ hd hi hS hsz hcs (by rw [e3]; exact h4) kk
      · cases h
    · rename_i x q r
      split at h
      · rename_i hn
        simp only [Option.some.injEq] at h
        subst h
        obtain ⟨rfl, h2, h3, h4, h5⟩ := hn
        rw [List.map_cons, List.map_cons, e2 q h3]
        exact str_chr C1 ⟨h2, h3⟩ h5 hd hi hS hsz hcs (by rw [e3]; exact h4) kk
      · cases h
    · cases h
  case bipush v =>
    have e0 := kres_plain hres rfl
    subst e0
    have e : len = 2 := by simpa [klen] using hlen
    subst e
    simp only [stA, Option.some.injEq] at h
    subst h
    exact lv_bipush hx hb hd rfl kk
  case sipush v =>
    have e0 := kres_plain hres rfl
    subst e0
    have e : len = 3 := by simpa [klen] using hlen
    subst e
    simp only [stA, Option.some.injEq] at h
    subst h
    exact lv_sipush hx hb hd rfl kk
  case lconst v =>
    have e0 := kres_plain hres rfl
    subst e0
    have e : len = 1 := by simpa [klen] using hlen
    subst e
    simp only [stA, Option.some.injEq] at h
    subst h
    exact lv_lconst hx hb hd rfl kk
  case aconst_null =>
    have e0 := kres_plain hres rfl
    subst e0
    have e : len = 1 := by simpa [klen] using hlen
    subst e
    simp only [stA, Option.some.injEq] at h
    subst h
    exact lv_null hx hb hd kk
  case iadd =>
    have e0 := kres_plain hres rfl
    subst e0
    have e : len = 1 := by simpa [klen] using hlen
    subst e
    simp only [stA] at h
    split at h
    · simp only [Option.some.injEq] at h
      subst h
      exact lv_iadd hx hb hd kk
    · cases h
  case isub =>
    have e0 := kres_plain hres rfl
    subst e0
    have e : len = 1 := by simpa [klen] using hlen
    subst e
    simp only [stA] at h
    split at h
    · simp only [Option.some.injEq] at h
      subst h
      exact lv_isub hx hb hd kk
    · cases h
  case imul =>
    have e0 := kres_plain hres rfl
    subst e0
    have e : len = 1 := by simpa [klen] using hlen
    subst e
    simp only [stA] at h
    split at h
    · simp only [Option.some.injEq] at h
      subst h
      exact lv_imul hx hb hd kk
    · cases h
  case iand =>
    have e0 := kres_plain hres rfl
    subst e0
    have e : len = 1 := by simpa [klen] using hlen
    subst e
    simp only [stA] at h
    split at h
    · simp only [Option.some.injEq] at h
      subst h
      exact lv_iand hx hb hd kk
    · cases h
  case ior =>
    have e0 := kres_plain hres rfl
    subst e0
    have e : len = 1 := by simpa [klen] using hlen
    subst e
    simp only [stA] at h
    split at h
    · simp only [Option.some.injEq] at h
      subst h
      exact lv_ior hx hb hd kk
    · cases h
  case ixor =>
    have e0 := kres_plain hres rfl
    subst e0
    have e : len = 1 := by simpa [klen] using hlen
    subst e
    simp only [stA] at h
    split at h
    · simp only [Option.some.injEq] at h
      subst h
      exact lv_ixor hx hb hd kk
    · cases h
  case ishl =>
    have e0 := kres_plain hres rfl
    subst e0
    have e : len = 1 := by simpa [klen] using hlen
    subst e
    simp only [stA] at h
    split at h
    · simp only [Option.some.injEq] at h
      subst h
      exact lv_ishl hx hb hd kk
    · cases h
  case ishr =>
    have e0 := kres_plain hres rfl
    subst e0
    have e : len = 1 := by simpa [klen] using hlen
    subst e
    simp only [stA] at h
    split at h
    · simp only [Option.some.injEq] at h
      subst h
      exact lv_ishr hx hb hd kk
    · cases h
  case ineg =>
    have e0 := kres_plain hres rfl
    subst e0
    have e : len = 1 := by simpa [klen] using hlen
    subst e
    simp only [stA] at h
    split at h
    · simp only [Option.some.injEq] at h
      subst h
      exact lv_ineg hx hb hd kk
    · cases h
  case ladd =>
    have e0 := kres_plain hres rfl
    subst e0
    have e : len = 1 := by simpa [klen] using hlen
    subst e
    simp only [stA] at h
    split at h
    · simp only [Option.some.injEq] at h
      subst h
      exact lv_ladd hx hb hd kk
    · cases h
  case lsub =>
    have e0 := kres_plain hres rfl
    subst e0
    have e : len = 1 := by simpa [klen] using hlen
    subst e
    simp only [stA] at h
    split at h
    · simp only [Option.some.injEq] at h
      subst h
      exact lv_lsub hx hb hd kk
    · cases h
  case lmul =>
    have e0 := kres_plain hres rfl
    subst e0
    have e : len = 1 := by simpa [klen] using hlen
    subst e
    simp only [stA] at h
    split at h
    · simp only [Option.some.injEq] at h
      subst h
      exact lv_lmul hx hb hd kk
    · cases h
  case lcmp =>
    have e0 := kres_plain hres rfl
    subst e0
    have e : len = 1 := by simpa [klen] using hlen
    subst e
    simp only [stA] at h
    split at h
    · simp only [Option.some.injEq] at h
      subst h
      exact W.lcmp hx hb hd kk
    · cases h
  case iushr =>
    have e0 := kres_plain hres rfl
    subst e0
    have e : len = 1 := by simpa [klen] using hlen
    subst e
    simp only [stA] at h
    split at h
    · simp only [Option.some.injEq] at h
      subst h
      exact lv_iushr hx hb hd rfl kk
    · cases h
  case i2l =>
    have e0 := kres_plain hres rfl
    subst e0
    have e : len = 1 := by simpa [klen] using hlen
    subst e
    simp only [stA] at h
    split at h
    · simp only [Option.some.injEq] at h
      subst h
      exact lv_i2l hx hb hd rfl kk
    · cases h
  case l2i =>
    have e0 := kres_plain hres rfl
    subst e0
    have e : len = 1 := by simpa [klen] using hlen
    subst e
    simp only [stA] at h
    split at h
    · simp only [Option.some.injEq] at h
      subst h
      exact lv_l2i hx hb hd rfl kk
    · cases h
  case idiv =>
    have e0 := kres_plain hres rfl
    subst e0
    have e : len = 1 := by simpa [klen] using hlen
    subst e
    simp only [stA] at h
    split at h
    · split at h
      · cases h
      · rename_i hz
        simp only [Option.some.injEq] at h
        subst h
        exact lv_idiv hx hb hd hz kk
    · cases h
  case irem =>
    have e0 := kres_plain hres rfl
    subst e0
    have e : len = 1 := by simpa [klen] using hlen
    subst e
    simp only [stA] at h
    split at h
    · split at h
      · cases h
      · rename_i hz
        simp only [Option.some.injEq] at h
        subst h
        exact lv_irem hx hb hd hz kk
    · cases h
  case ldiv =>
    have e0 := kres_plain hres rfl
    subst e0
    have e : len = 1 := by simpa [klen] using hlen
    subst e
    simp only [stA] at h
    split at h
    · split at h
      · cases h
      · rename_i hz
        simp only [Option.some.injEq] at h
        subst h
        exact lv_ldiv hx hb hd hz kk
    · cases h
  case lrem =>
    have e0 := kres_plain hres rfl
    subst e0
    have e : len = 1 := by simpa [klen] using hlen
    subst e
    simp only [stA] at h
    split at h
    · split at h
      · cases h
      · rename_i hz
        simp only [Option.some.injEq] at h
        subst h
        exact lv_lrem hx hb hd hz kk
    · cases h
  case dup =>
    have e0 := kres_plain hres rfl
    subst e0
    have e : len = 1 := by simpa [klen] using hlen
    subst e
    simp only [stA] at h
    split at h
    · split at h
      · rename_i hz
        simp only [Option.some.injEq] at h
        subst h
        exact lv_dup hx hb hd (by rw [krn_cat]; exact hz) kk
      · cases h
    · cases h
  case pop =>
    have e0 := kres_plain hres rfl
    subst e0
    have e : len = 1 := by simpa [klen] using hlen
    subst e
    simp only [stA] at h
    split at h
    · split at h
      · rename_i hz
        simp only [Option.some.injEq] at h
        subst h
        exact lv_pop hx hb hd (by rw [krn_cat]; exact hz) kk
      · cases h
    · cases h
  case dup2 =>
    have e0 := kres_plain hres rfl
    subst e0
    have e : len = 1 := by simpa [klen] using hlen
    subst e
    simp only [stA] at h
    split at h
    · split at h
      · rename_i hz
        simp only [Option.some.injEq] at h
        subst h
        exact lv_dup2_11 hx hb hd (by rw [krn_cat]; exact hz.1) (by rw [krn_cat]; exact hz.2) kk
      · cases h
    · cases h
  all_goals exact absurd h (by simp [stA])
end KSA
