/-! what the start gives: the texts written in the code, the arrays' and objects' kinds, an empty memory -/
def kIx : List Nat := [127, 184, 186, 129, 135, 143, 110, 148, 170, 168, 156]
def kBs : List Nat := [9, 33, 69, 123, 132, 142, 156, 183, 196, 211, 227]
def kTm (i : Nat) : Term := .string "TruthHats$Reader" (kIx.getD i 0)
def kFl : List Jvm.Cond := flatC (Jvm.Cond.and given_1 narrow_1)
theorem kFl_1 : (List.range 11).all (fun i => decide (kFl[kBs.getD i 0]? = some (.exactly (kTm i) "java/lang/String")) && decide (kFl[kBs.getD i 0 + 1]? = some (.eq (.field (kTm i) "java/lang/String" "coder" "B") (.int 0))) && decide (kFl[kBs.getD i 0 + 2]? = some (.arrayOf (.field (kTm i) "java/lang/String" "value" "[B") .byte)) && decide (kFl[kBs.getD i 0 + 3]? = some (.eq (.length (.field (kTm i) "java/lang/String" "value" "[B")) (.int (Int32.ofNat (kSlen.getD i 0)))))) = true := by decide +kernel
theorem kFl_2 : (List.range 11).all (fun i => (List.range (kSlen.getD i 0)).all (fun j => decide (kFl[kBs.getD i 0 + 4 + j]? = some (.eq (.elem (.field (kTm i) "java/lang/String" "value" "[B") (.int (Int32.ofNat j))) (.int ((kSbyt.getD i []).getD j 0)))))) = true := by decide +kernel
theorem kFl_3 : (List.range 11).all (fun j => (List.range j).all (fun i => decide (kFl[kBs.getD j 0 + 4 + kSlen.getD j 0 + i]? = some (.not (.eq (kTm i) (kTm j)))))) = true := by decide +kernel
theorem kFl_4 : kFl[4]? = some (.eq (.static "java/lang/String" "COMPACT_STRINGS" "Z") (.int 1)) ∧ kFl[5]? = some (.isRef (.static "jdk/internal/util/Preconditions" "SIOOBE_FORMATTER" "Ljava/util/function/BiFunction;")) := by decide +kernel
theorem kFl_5 : kKS.all (fun e => decide (kOn e.1 = "TruthHats$Reader") && decide (2 ≤ e.2.2.2 ∧ e.2.2.2 < 13) && decide (e.2.1 = kIx.getD (e.2.2.2 - 2) 0)) = true := by decide +kernel
theorem kS_lt : (List.range 11).all (fun i => decide (kSlen.getD i 0 < 2 ^ 31)) = true := by decide +kernel
/-- the texts at the start -/
theorem start_S {s : State} {b : Nat} (hts : ∀ w ∈ lw_tbl, w.before #[Value.ref b] s = true) (hgv : (Jvm.Cond.and given_1 narrow_1).before #[Value.ref b] s = true) : ∃ ext adV : Nat → Nat, ext 1 = b ∧ kSF ext adV (fun q : Nat => s.heap.size ≤ q) s s.heap := by
  have hf := flat_of_before _ hgv
  have hA : ∀ a : Nat, a < s.heap.size → ¬ (fun q : Nat => s.heap.size ≤ q) a := fun _ h => Nat.not_le.mpr h
  have at' : ∀ {k : Nat} {w : Jvm.Cond}, kFl[k]? = some w → w.before #[Value.ref b] s = true := fun h => hf _ (List.mem_of_getElem? h)
  have f1 : ∀ i, i < 11 → ((kFl[kBs.getD i 0]? = some (.exactly (kTm i) "java/lang/String") ∧ kFl[kBs.getD i 0 + 1]? = some (.eq (.field (kTm i) "java/lang/String" "coder" "B") (.int 0))) ∧ kFl[kBs.getD i 0 + 2]? = some (.arrayOf (.field (kTm i) "java/lang/String" "value" "[B") .byte)) ∧ kFl[kBs.getD i 0 + 3]? = some (.eq (.length (.field (kTm i) "java/lang/String" "value" "[B")) (.int (Int32.ofNat (kSlen.getD i 0)))) := by
    intro i hi
    have h := List.all_eq_true.mp kFl_1 i (List.mem_range.mpr hi)
    simp only [Bool.and_eq_true, decide_eq_true_eq] at h
    exact h
  have f3 : ∀ i j, i < j → j < 11 → kFl[kBs.getD j 0 + 4 + kSlen.getD j 0 + i]? = some (.not (.eq (kTm i) (kTm j))) := fun i j hij hj => of_decide_eq_true (List.all_eq_true.mp (List.all_eq_true.mp kFl_3 j (List.mem_range.mpr hj)) i (List.mem_range.mpr hij))
  obtain ⟨adK, adV, hS, hK⟩ := vk_Sof (args := #[Value.ref b]) (s := s) (N := 11) (tm := kTm) (len := kSlen) (byt := kSbyt) (A := fun q : Nat => s.heap.size ≤ q) (fun i hi => of_decide_eq_true (List.all_eq_true.mp kS_lt i (List.mem_range.mpr hi))) (fun i hi => at' (f1 i hi).1.1.1) (fun i hi => at' (f1 i hi).1.1.2) (fun i hi => at' (f1 i hi).1.2) (fun i hi => at' (f1 i hi).2)
    (fun i hi j hj => at' (of_decide_eq_true (List.all_eq_true.mp (List.all_eq_true.mp kFl_2 i (List.mem_range.mpr hi)) j (List.mem_range.mpr hj))))
    (fun i j hi hj hij => by
      rcases Nat.lt_or_ge i j with q | q
      · exact Or.inl (at' (f3 i j q hj))
      · exact Or.inr (at' (f3 j i (by omega) hi))) hA
  have e2 : (fun i => (fun k => if k = 1 then b else adK (k - 2)) (i + 2)) = adK := by
    funext i
    show (if i + 2 = 1 then b else adK (i + 2 - 2)) = adK i
    rw [if_neg (by omega), show i + 2 - 2 = i by omega]
  refine ⟨fun k => if k = 1 then b else adK (k - 2), adV, if_pos rfl, ?_, ?_, ?_, ?_⟩
  · intro w hw
    have h := List.all_eq_true.mp kFl_5 w hw
    simp only [Bool.and_eq_true, decide_eq_true_eq] at h
    obtain ⟨⟨g1, g2, g3⟩, g4⟩ := h
    have h2 := List.all_eq_true.mp kKS_ok w hw
    rw [Bool.and_eq_true] at h2
    have h3 := hts _ (List.mem_of_getElem? (of_decide_eq_true h2.1))
    have h4 := hK (w.2.2.2 - 2) (by omega)
    refine vk_R.of (A := #[Value.ref b]) h3 ?_
    show (Term.string (kOn w.1) w.2.1).eval #[Value.ref b] s none [] s = some (.ref (if w.2.2.2 = 1 then b else adK (w.2.2.2 - 2)))
    rw [if_neg (by omega), g1, g4]
    exact h4
  · rw [e2]
    exact hS
  · exact va_Zof (hts _ (List.mem_of_getElem? (i := 639) (by decide +kernel))) (hts _ (List.mem_of_getElem? (i := 121) (by decide +kernel))) (va_eqt (at' kFl_4.1)) hA
  · exact va_Zqof (hts _ (List.mem_of_getElem? (i := 655) (by decide +kernel))) (hts _ (List.mem_of_getElem? (i := 123) (by decide +kernel))) (at' kFl_4.2) hA
/-- the kinds at the start -/
theorem start_K {s : State} {b : Nat} (hts : ∀ w ∈ lw_tbl, w.before #[Value.ref b] s = true) : ∃ (D : va_G) (dA : Nat → ClassId), va_K D vwCl (ktys dA) s := by
  have htG : ∀ w ∈ lwG, w.before #[Value.ref b] s = true := fun w hw => hts w (lwG_in w hw)
  have h0 : ∀ ci : Nat, ∃ x : ClassId × (Nat → Nat), ci < 10 → u_Kn s (kcls ci).1 (kcls ci).2.1 (kcls ci).2.2 x.1 x.2 := by
    intro ci
    by_cases hc : ci < 10
    · obtain ⟨cC, iS, h⟩ := u_known (C := (kcls ci).1) (T := (kcls ci).2.1) (N := (kcls ci).2.2) (n := kNF ci) htG (kcls_ws ci hc) (htG _ (kcls_ins ci hc).1)
      exact ⟨(cC, iS), fun _ => h⟩
    · exact ⟨(0, fun _ => 0), fun h => absurd h hc⟩
  obtain ⟨f, hf⟩ := Classical.axiomOfChoice h0
  have pr : ∀ {ty : FieldType}, (Jvm.Cond.arrayClass ty).before #[Value.ref b] s = true → ∃ cA : ClassId, ArrOfT s cA ty ∧ s.vm.findClass ("[" ++ ty.toString) = some cA := by
    intro ty h
    obtain ⟨cA, k, comp, h1, h2, h3⟩ := Cond.arrayClass_spec h
    exact ⟨cA, fun n z => ⟨(fun k h => by cases h), k, h2, comp, h3⟩, h1⟩
  have ob : ∀ {C : String}, (Jvm.Cond.arrayOver (.object C)).before #[Value.ref b] s = true → ∃ cA : ClassId, ArrOfT s cA (.object C) ∧ va_RA s cA (.object C) := by
    intro C h
    obtain ⟨comp, cA, k, h1, h2, h3, h4, h5⟩ := Cond.arrayOver_spec h
    exact ⟨cA, fun n z => ⟨(fun k h => by cases h), k, h3, comp, h4⟩, k, comp, h3, h4, h1, h5⟩
  obtain ⟨c0, a0, b0⟩ := pr (htG _ kw_arr.1)
  obtain ⟨c1, a1, b1⟩ := pr (htG _ kw_arr.2.2)
  obtain ⟨c2, a2, b2⟩ := pr (htG _ kw_arr.2.1)
  obtain ⟨c3, a3, b3⟩ := ob (C := RX7) (hts _ (List.mem_of_getElem? (i := 140) (by decide +kernel)))
  obtain ⟨c4, a4, b4⟩ := ob (C := RX0) (hts _ (List.mem_of_getElem? (i := 210) (by decide +kernel)))
  refine ⟨(fun c => (f c).1, fun c => (f c).2), fun k => match k with | 0 => c0 | 1 => c1 | 2 => c2 | 3 => c3 | _ => c4, fun c q hq => ?_, fun k q hk => ?_⟩
  · have hc : c < 10 := (List.getElem?_eq_some_iff.mp hq).1
    have e := kcls_at hc
    rw [hq] at e
    cases e
    exact hf c hc
  · match k, hk with
    | 0, hk => cases hk; exact ⟨a0, b0⟩
    | 1, hk => cases hk; exact ⟨a1, b1⟩
    | 2, hk => cases hk; exact ⟨a2, b2⟩
    | 3, hk => cases hk; exact ⟨a3, b3⟩
    | 4, hk => cases hk; exact ⟨a4, b4⟩
    | k + 5, hk => simp [ktys] at hk
theorem whole_start {p : Program} {e : Env} {s : State} {m : MethodId} {below : List Frame} {meth : Method} {c : Code} (l : Launch) (hflags : l.flags = flags0) {b L : Nat} {xs : Nat → Int32} (hL : L ≤ 3072) (C0 : lw_At p s m meth c b L xs) : W p l e room_1 s m #[Value.ref b] below meth c s.heap [] 0 0 (lw_Z below #[Value.ref b] s) (entryFrame m ([Value.ref b] : List Value).toArray 4) := by
  obtain ⟨hx, hb, hr, hml, hown, hts, hX, hbl, hlocks, hgv⟩ := id C0
  obtain ⟨ext, adV, hext, hSF⟩ := start_S hts hgv
  obtain ⟨D, dA, hK⟩ := start_K hts
  have htG : ∀ w ∈ lwG, w.before #[Value.ref b] s = true := fun w hw => hts w (lwG_in w hw)
  obtain ⟨n, r, M', hev, hr1, hn1, hs1⟩ := law_all (N := L) (F := xs) (Q := fun r M2 => r = some (.int 1) ∧ hN M2 ≤ 90 + 3072 ∧ hS M2 ≤ 60000 + 307200) hL (fun M2 q1 q2 => ⟨rfl, q1, q2⟩)
  subst hr1
  have hl := lv_entry ([.ref b]) (n := 4) (Nat.le_of_ble_eq_true rfl)
  rw [lg_entry_eq]
  generalize (lg_sl ([.ref b]) ++ List.replicate (4 - (lg_sl ([.ref b])).length) Slot.unset).toArray = ls at hl ⊢
  have hl1 : kLv s.heap.size ext ls (kM 272).2.2.1 [(0, .ref 1)] := by
    show lv_has ls 4 [(0, .ref (kad s.heap.size ext 1))]
    rw [show kad s.heap.size ext 1 = b from hext]
    exact hl
  have C1 : kCtx D dA s.heap.size ext adV (some (L, xs)) p room_1 s m #[Value.ref b] meth c 272 := by
    refine ⟨hx, hb, hr, hml, ?_, htG, fun w hw => ?_, hlocks, fun q => ?_, hK, ⟨va_AO.of (hts _ (List.mem_of_getElem? (i := 140) (by decide +kernel))), va_AO.of (hts _ (List.mem_of_getElem? (i := 210) (by decide +kernel)))⟩, Nat.le_refl _, hSF, fun n f q => ?_, by decide, by decide⟩
    · rw [show kOn (kOwn 272) = R_law by decide +kernel]
      exact hown
    · obtain ⟨a, i, y, h2, rfl⟩ := kNest_form w hw
      exact va_Nw.of rfl (hts _ (kNest_in _ hw))
    · exact absurd q (by decide +kernel)
    · cases q
      rw [hext]
      exact ⟨hX, hbl, hbl⟩
  have Y0 : kInv D dA s.heap.size ext s 0 0 M00 s.heap [] 0 0 := ⟨fun k q h => by simp [wz, M00, hN] at h, rfl, fun _ _ => rfl, va_S.rf, ⟨Nat.le_refl _, rfl⟩, ⟨Nat.le_refl _, rfl⟩⟩
  refine evOK_all l D dA s.heap.size ext adV n 8 272 0 (some (L, xs)) [(0, .ref 1)] [] M00 _ M' hev (by decide) p e room_1 s m #[Value.ref b] below meth c s.heap [] 0 0 _ ls 0 0 C1 Y0 hl1 (by decide +kernel) (by decide +kernel) ⟨by show hN M' - 0 ≤ 600000; omega, by show hS M' - 0 ≤ 7302250; omega⟩ ?_
  intro pc2 ls2 st2 H2 locs2 cells2 slots2 ins len k hkat hisr hret Y2
  obtain ⟨ri, hd, hres, hlen⟩ := kat_raw hkat (by decide)
  obtain ⟨hP2, hsz2, hOK2, hS2, ⟨-, hn2⟩, ⟨-, hs2⟩⟩ := Y2
  unfold kretv at hret
  split at hret
  · have e0 := kres_plain hres rfl
    subst e0
    have e1 : len = 1 := by simpa [klen] using hlen
    subst e1
    split at hret
    · split at hret
      · cases hret
        exact va_forget hS2.2.2 (W.widen (k := 600000) (n := 7302250) (by omega) (by omega) (lw_ret hx hb hr hlocks hd))
      · cases hret
    · cases hret
  · split at hret
    · split at hret
      · cases hret
      · cases hret
    · cases hret
  · split at hret
    · cases hret
    · cases hret
    · cases hret
  · split at hret
    · split at hret
      · cases hret
      · cases hret
    · cases hret
  · cases hret
