section KMET
variable {l : Launch} {D : va_G} {dA : Nat → ClassId} {b : Nat} {ext adV : Nat → Nat}
/-- a method's contract, at one memory -/
theorem met_of {n d mi : Nat} (IH : evOK l D dA b ext adV n) {vs : List Value} {M M' : hp} {r : Option Value} (h : ev none n d mi 0 (lv_args 0 vs) [] M = some (r, M')) (hmi : mi < 273) (hw : (vs.map (fun v => v.category)).sum ≤ (kM mi).2.2.1) :
    Met l (kM mi).1 (kwt mi) (krm d mi (hN M' - hN M) (hS M' - hS M)) (kPc D dA b ext adV vs M) (kQc D dA b ext r M') (hN M' - hN M) (hS M' - hS M) (fun q : Nat => b ≤ q) := by
  obtain ⟨k1, k2, k3, k4, k5, k6, k7, k8, k9, k10, k11⟩ := kmx_all hmi
  have hmono := ev_mono _ _ _ _ _ _ _ _ _ _ h
  refine Met.ofW (cc := (kM mi).2.1) (maxL := (kM mi).2.2.1) (ret := kRet mi) k11 rfl ?_
  intro p e s m args below meth c s₁ B hml hv
  obtain ⟨rfl, hP, hsz, hOK, hK, hAO, hSF, hNw⟩ := hv
  have hts0 := atoms_spec (ws := kwt mi) B.pre
  have hts : ∀ w ∈ lwG, w.before _ s = true := fun w hw => hts0 w (List.mem_cons_of_mem _ hw)
  have hown : s.vm.findClass (kOn (kOwn mi)) = some m.cls := by
    rw [← k7]
    exact findClass_of_methodNamed B.named
  have hin : kIni mi = true → meth.name = "<init>" := by
    intro q
    have h1 := List.all_eq_true.mp kIni_ok mi (List.mem_range.mpr hmi)
    rw [q] at h1
    have h2 : (kM mi).1.name = "<init>" := by simpa using h1
    rw [← h2]
    exact (name_of_methodNamed B.named B.method).1
  have hbs : b ≤ s.heap.size := by rw [hsz]; exact Nat.le_add_right _ _
  have hl := lv_entry (vs.map (krn b ext)) (n := (kM mi).2.2.1) (by rw [lgsl_len, kcat_map]; exact hw)
  rw [lg_entry_eq]
  generalize (lg_sl (vs.map (krn b ext)) ++ List.replicate ((kM mi).2.2.1 - (lg_sl (vs.map (krn b ext))).length) Slot.unset).toArray = ls at hl ⊢
  rw [lva_map] at hl
  have hfr8 : 8 ≤ kFr d mi := by unfold kFr; omega
  have C0 : kCtx D dA b ext adV none p (headSpec (kwt mi) (krm d mi (hN M' - hN M) (hS M' - hS M))).room s m (vs.map (krn b ext)).toArray meth c mi :=
    ⟨B.exec, B.bytes, B.returns, hml, hown, hts, hNw, B.notSynchronized, hin, hK, hAO, hbs, hSF, (fun n f q => by cases q), hfr8, by show 300 ≤ 40 * kFr d mi; omega⟩
  have Y0 : kInv D dA b ext s (hN M) (hS M) M s.heap [] 0 0 := ⟨hP, hsz, hOK, va_S.rf, ⟨Nat.le_refl _, (Nat.sub_self _).symm⟩, ⟨Nat.le_refl _, (Nat.sub_self _).symm⟩⟩
  refine IH d mi 0 none _ [] M r M' h hmi p e _ s m _ below meth c s.heap [] 0 0 _ ls (hN M) (hS M) C0 Y0 hl (Nat.le_refl _) (Nat.le_refl _) ⟨Nat.le_refl _, Nat.le_refl _⟩ ?_
  intro pc2 ls2 st2 H2 locs2 cells2 slots2 ins len k hkat hisr hret Y2
  obtain ⟨ri, hd, hres, hlen⟩ := kat_raw hkat hmi
  obtain ⟨hP2, hsz2, hOK2, hS2, ⟨hn1, hn2⟩, ⟨hs1, hs2⟩⟩ := Y2
  subst hn2; subst hs2
  have hr := B.returns
  have hlocks := B.notSynchronized
  have fin : ∀ (v : Option Value) (t : State), v = r.map (krn b ext) → t.heap = H2 → kQc D dA b ext r M' (vs.map (krn b ext)).toArray s (.returned v) t := by
    intro v t hv ht
    refine ⟨by rw [hv], by rw [ht]; exact hP2, by rw [ht]; exact hsz2, hOK2, hS2.F ht⟩
  unfold kretv at hret
  split at hret
  · have e0 := kres_plain hres rfl
    subst e0
    have e1 : len = 1 := by simpa [klen] using hlen
    subst e1
    split at hret
    · rename_i v ty hty
      split at hret
      · rename_i hn
        cases hret
        exact W.zret B.exec B.bytes (by rw [hr]; exact hty) hn (fun t ht hW => fin _ t rfl ht) hS2.2.2 hd hlocks
      · cases hret
    · cases hret
  · have e0 := kres_plain hres rfl
    subst e0
    have e1 : len = 1 := by simpa [klen] using hlen
    subst e1
    split at hret
    · split at hret
      · rename_i hn
        cases hret
        exact W.lret B.exec B.bytes (by rw [hr]; exact hn) (fun t ht hW => fin _ t rfl ht) hS2.2.2 hd hlocks
      · cases hret
    · cases hret
  · have e0 := kres_plain hres rfl
    subst e0
    have e1 : len = 1 := by simpa [klen] using hlen
    subst e1
    split at hret
    · rename_i v nm hty
      cases hret
      exact W.aret B.exec B.bytes (by rw [hr]; exact hty) (Or.inl ⟨_, rfl⟩) (Or.inr ⟨_, rfl⟩) (fun t ht hW => fin _ t rfl ht) hS2.2.2 hd hlocks
    · rename_i nm hty
      cases hret
      exact W.aret B.exec B.bytes (by rw [hr]; exact hty) (Or.inl ⟨_, rfl⟩) (Or.inl rfl) (fun t ht hW => fin _ t rfl ht) hS2.2.2 hd hlocks
    · cases hret
  · have e0 := kres_plain hres rfl
    subst e0
    have e1 : len = 1 := by simpa [klen] using hlen
    subst e1
    split at hret
    · split at hret
      · rename_i hn
        cases hret
        exact W.vret B.exec B.bytes (by rw [hr]; exact hn) (fun t ht hW => fin _ t rfl ht) hS2.2.2 hd hlocks
      · cases hret
    · cases hret
  · cases hret
end KMET
section KRUN
variable {p : Program} {l : Launch} {e : Env} {R : Room} {s : State} {m : MethodId} {args : Array Value} {below : List Frame} {meth : Method} {c : Code} {H : Heap} {locs : List Loc} {cells slots : Nat} {Q : State → Prop} {pc len : Nat} {ls : Array Slot} {D : va_G} {dA : Nat → ClassId} {b : Nat} {ext adV : Nat → Nat} {sc : Option (Nat × (Nat → Int32))} {mi : Nat} {ri ins : Instr} {N0 S0 : Nat} {M M1 : hp}
/-- behind a call -/
theorem krun {r1 : Option Value} {rest st0 : List Value} {a : Array Value} (hmono : hN M ≤ hN M1 ∧ hS M ≤ hS M1) (hr : va_Run p l e R s m args below meth c H locs cells slots (hN M1 - hN M) (hS M1 - hS M) (F0 m pc ls st0) rest (kQc D dA b ext r1 M1 a) (fun q : Nat => b ≤ q)) (Y : kInv D dA b ext s N0 S0 M H locs cells slots)
    (kk : ∀ (H1 : Heap) (locs1 : List Loc) (cells1 slots1 : Nat), kInv D dA b ext s N0 S0 M1 H1 locs1 cells1 slots1 → W p l e R s m args below meth c H1 locs1 cells1 slots1 Q (F0 m (pc + 3) ls ((r1.map (krn b ext)).toList ++ rest))) : W p l e R s m args below meth c H locs cells slots Q (F0 m pc ls st0) := by
  obtain ⟨hP, hsz, hOK, hVS, ⟨hn1, hn2⟩, ⟨hs1, hs2⟩⟩ := Y
  intro T hT X
  obtain ⟨v, st₀, t, T', L, h0, X', hL, e1, e2, ⟨hv, hP1, hsz1, hOK1, hz, hk⟩, st⟩ := hr T hT X
  cases hv
  rw [h0] at hz hk
  obtain ⟨t2, a1, b1⟩ := kk T'.heap (locs ++ L) (cells + (hN M1 - hN M)) (slots + (hS M1 - hS M)) ⟨by rw [e1]; exact hP1, by rw [e1]; exact hsz1, hOK1,
    ⟨Nat.le_trans hVS.1 (by rw [e1]; exact hz), fun q h1 h2 => by rw [e1, hk q (Nat.lt_of_lt_of_le h1 hVS.1) h2]; exact hVS.2.1 q h1 h2, fun q hq => by
      rcases List.mem_append.mp hq with h | h
      · exact hVS.2.2 q h
      · exact hL q h⟩, ⟨by omega, by omega⟩, ⟨by omega, by omega⟩⟩ T' rfl X'
  exact ⟨t2, st t2 a1, b1⟩
/-- a call's start, at the callee's memory -/
theorem kpre (C0 : kCtx D dA b ext adV sc p R s m args meth c mi) (Y : kInv D dA b ext s N0 S0 M H locs cells slots) (vs : List Value) : ∀ U : State, U.heap = H → s.WarmedH U.vm → kPc D dA b ext adV vs M (vs.map (krn b ext)).toArray U := by
  obtain ⟨hx, hb, hr, hml, hown, hts, hnest, hlocks, hini, hKs, hAO, hbs, hSF, hsc, hfr, hlo⟩ := C0
  obtain ⟨hP, hsz, hOK, hVS, hn, hs⟩ := Y
  intro U hU hW
  exact ⟨rfl, by rw [hU]; exact hP, by rw [hU]; exact hsz, hOK, va_K.moved hW.alike hKs, ⟨va_AO.moved hW.alike hAO.1, va_AO.moved hW.alike hAO.2⟩, by rw [hU]; exact (hSF.kept hVS.2.1).warm hW, fun w hw => kNw.warm hw hW (hnest w hw)⟩
theorem kcall_ok {n d' : Nat} (IH : evOK l D dA b ext adV n) (C0 : kCtx D dA b ext adV sc p R s m args meth c mi) (Y : kInv D dA b ext s N0 S0 M H locs cells slots) {lv : List (Nat × Value)} (hl : kLv b ext ls (kM mi).2.2.1 lv) {k : Nat} (hd : decode (kM mi).2.1 pc = .ok (ri, len)) (hres : kres (kOwn mi) ri ins = true) (hlen : klen ri len = true) (hk : kcall ins = some k)
    {st : List Value} {r1 : Option Value} (hrecv : krecv (k / 1000) (k % 1000) (st.take (kNA (k % 1000))).reverse M = true) (hna : kNA (k % 1000) ≤ st.length) (hcat : ((st.drop (kNA (k % 1000))).map (fun v => v.category)).sum ≤ 8) (hwd : ((st.take (kNA (k % 1000))).map (fun v => v.category)).sum ≤ (kM (k % 1000)).2.2.1)
    {d : Nat} (hdc : dcall d mi (k % 1000) = some d') (hev : ev none n d' (k % 1000) 0 (lv_args 0 (st.take (kNA (k % 1000))).reverse) [] M = some (r1, M1)) (hfr : kFr d mi ≤ R.frames) (hlo : 40 * kFr d mi ≤ R.locals) (hroom : hN M1 - N0 ≤ R.cells ∧ hS M1 - S0 ≤ R.slots)
    (kk : ∀ (H1 : Heap) (locs1 : List Loc) (cells1 slots1 : Nat), kInv D dA b ext s N0 S0 M1 H1 locs1 cells1 slots1 → W p l e R s m args below meth c H1 locs1 cells1 slots1 Q (F0 m (pc + 3) ls ((r1.toList ++ st.drop (kNA (k % 1000))).map (krn b ext)))) : W p l e R s m args below meth c H locs cells slots Q (F0 m pc ls (st.map (krn b ext))) := by
  have C1 := C0
  have Y1 := Y
  obtain ⟨hx, hb, hr, hml, hown, hts, hnest, hlocks, hini, hKs, hAO, hbs, hSF, hsc, hfr8, hlo8⟩ := C0
  obtain ⟨hP, hsz, hOK, hVS, ⟨hn1, hn2⟩, ⟨hs1, hs2⟩⟩ := Y
  have hmono := ev_mono _ _ _ _ _ _ _ _ _ _ hev
  have hkk : (r1.toList ++ st.drop (kNA (k % 1000))).map (krn b ext) = (r1.map (krn b ext)).toList ++ (st.drop (kNA (k % 1000))).map (krn b ext) := by
    rw [List.map_append]
    congr 1
    cases r1 <;> rfl
  rw [hkk] at kk
  -- the instruction, its pool number, the word
  have hinv : ∃ i, (ri = .invokevirtual i ∧ (k / 1000 = 0 ∨ k / 1000 = 1) ∨ ri = .invokestatic i ∧ (k / 1000 = 2 ∨ k / 1000 = 3) ∨ ri = .invokespecial i ∧ (k / 1000 = 4 ∨ k / 1000 = 5)) ∧ khas kKM (kOwn mi) i k = true ∧ k < 6000 := by
    cases ins <;> simp only [kcall] at hk <;> first | (cases hk; done) | skip
    case invokespecial q =>
      split at hk
      · rename_i hlt
        cases hk
        obtain ⟨i, rfl, h1, h2⟩ := kres_invI hres
        exact ⟨i, Or.inr (Or.inr ⟨rfl, by omega⟩), h1, hlt⟩
      · cases hk
    case invokestatic q =>
      split at hk
      · rename_i hlt
        cases hk
        obtain ⟨i, rfl, h1, h2⟩ := kres_invS hres
        exact ⟨i, Or.inr (Or.inl ⟨rfl, by omega⟩), h1, hlt⟩
      · cases hk
    case invokevirtual q =>
      split at hk
      · rename_i hlt
        cases hk
        obtain ⟨i, rfl, h1, h2⟩ := kres_invV hres
        exact ⟨i, Or.inl ⟨rfl, by omega⟩, h1, hlt⟩
      · cases hk
  obtain ⟨i, hri, hhas, hk6⟩ := hinv
  have hlen3 : len = 3 := by
    rcases hri with ⟨rfl, -⟩ | ⟨rfl, -⟩ | ⟨rfl, -⟩ <;> simpa [klen] using hlen
  subst hlen3
  obtain ⟨w, he, hw⟩ := khas_M hhas
  have hcallk := List.all_eq_true.mp kMx_call _ he
  have hnst := List.all_eq_true.mp kNest_all _ he
  dsimp only at hcallk hnst
  rw [Bool.or_eq_true] at hcallk
  have hcallk := hcallk.resolve_left (by simp; omega)
  rw [Bool.and_eq_true] at hcallk
  obtain ⟨hmj, hkind⟩ := hcallk
  have hmj : k % 1000 < 272 := of_decide_eq_true hmj
  have hw1 : ¬ (k / 1000 = 1 ∨ k / 1000 = 3 ∨ k / 1000 = 5) → Jvm.Cond.methodLink (kOn (kOwn mi)) i (kM (k % 1000)).1 ∈ lwG := by
    intro q
    unfold kwM at hw
    dsimp only at hw
    rw [if_neg (by omega), if_neg (by omega), if_neg (by omega), if_neg (by omega), if_neg (by omega), if_neg (by omega), if_neg (by omega), if_neg q] at hw
    exact lwG_of hw rfl
  have hw2 : (k / 1000 = 1 ∨ k / 1000 = 3 ∨ k / 1000 = 5) → va_Nw (Jvm.Cond.methodLinkNest (kOn (kOwn mi)) i (kM (k % 1000)).1 "TruthHats") s := by
    intro q
    have h1 : kwM (kOwn mi, i, w, k) ∈ kNest := by
      rw [decide_eq_true q] at hnst
      simpa using hnst
    have h2 := hnest _ h1
    unfold kwM at h2
    dsimp only at h2
    rw [if_neg (by omega), if_neg (by omega), if_neg (by omega), if_neg (by omega), if_neg (by omega), if_neg (by omega), if_neg (by omega), if_pos q] at h2
    exact h2
  clear hw hnst
  generalize hj : k % 1000 = mj at *
  obtain ⟨k1, k2, k3, k4, k5, k6, k7, k8, k9, k10, k11⟩ := kmx_all (mi := mj) (by omega)
  have hcode := k1 (by omega)
  have hG := kwt_good hcode
  have hM := met_of IH hev (by omega) (by rw [List.map_reverse, List.sum_reverse]; exact hwd)
  generalize hvs : (st.take (kNA mj)).reverse = vs at *
  have hst : st = vs.reverse ++ st.drop (kNA mj) := by
    rw [← hvs, List.reverse_reverse, List.take_append_drop]
  have hvl : vs.length = kNA mj := by
    rw [← hvs, List.length_reverse, List.length_take]
    omega
  generalize hrest : st.drop (kNA mj) = rest at *
  have hstm : st.map (krn b ext) = (vs.map (krn b ext)).reverse ++ rest.map (krn b ext) := by
    rw [hst, List.map_append, List.map_reverse]
  rw [hstm]
  have hlsz : ls.size = (kM mi).2.2.1 := hl.1
  have hR : (krm d' mj (hN M1 - hN M) (hS M1 - hS M)).frames + 1 ≤ R.frames ∧ 8 + ((kM mj).2.2.1 + 11) + (krm d' mj (hN M1 - hN M) (hS M1 - hS M)).locals ≤ R.locals := by
    have h1 := kFr_call hdc k10
    exact ⟨by show kFr d' mj + 1 ≤ _; omega, by show 8 + ((kM mj).2.2.1 + 11) + 40 * kFr d' mj ≤ _; omega⟩
  have hf : cells + (hN M1 - hN M) ≤ R.cells ∧ slots + (hS M1 - hS M) ≤ R.slots := ⟨by omega, by omega⟩
  have hroomW : ∀ z : List Value, 2 * (F0 m pc ls z).monitorRoom + ((rest.map (krn b ext)).map fun v => v.category).sum ≤ 8 := fun z => lv_room (by rw [kcat_map]; exact hcat)
  have hini2 := hts _ k2
  have S : CallFix p m c (kM mi).2.1 (kM mi).2.2.1 s args lwG (kOn (kOwn mi)) := ⟨hx, hb, hml, hown, hts⟩
  have hpar : ∀ x, (kMx.getD mj (0, 0, 0, 0, 0)).2.2.2.2 = x → (parseMethodDescriptor (kM mj).1.desc).map (fun d => d.parameters.length) = some (kNA mj - (if x = 99999 then 1 else 0)) := by
    intro x hx2
    rw [hx2] at k8
    cases hp : parseMethodDescriptor (kM mj).1.desc with
    | none => rw [hp] at k8; cases k8
    | some sg =>
      rw [hp] at k8
      simp only [Option.map_some, Option.some.injEq] at k8 ⊢
      by_cases q : x = 99999
      · rw [if_pos ⟨q, by omega⟩] at k8
        rw [if_pos q]
        omega
      · rw [if_neg (fun z => q z.1)] at k8
        rw [if_neg q]
        omega
  have hvirt : ∀ {a : Nat} {As : List Value}, vs = .ref a :: As → (hK M a).1 = kOwn mj → kOwn mj < 10 → ∃ cell : Cell, H[kad b ext a]? = some cell ∧ cell.vm.isStatics = false ∧ s.vm.findClass (kM mj).1.cls = some cell.cls := by
    intro a As h1 h2 h3
    obtain ⟨ha1, ha2, hw3⟩ := kread C1 Y1 (a := a) (by omega)
    rw [kcell_obj (dA := dA) (b := b) (ext := ext) h2 h3] at hw3
    have hrv := va_recv hKs hP (kcls_at h3) hw3
    rw [k7, kOn_cls h3]
    exact hrv
  rcases hri with ⟨rfl, hkd⟩ | ⟨rfl, hkd⟩ | ⟨rfl, hkd⟩
  · rcases hkd with hkd | hkd
    · rw [hkd] at hkind hrecv
      simp only [Bool.and_eq_true, bne_iff_ne, ne_eq, decide_eq_true_eq] at hkind
      obtain ⟨⟨⟨g1, g2⟩, g3⟩, g4⟩ := hkind
      unfold krecv at hrecv
      simp only at hrecv
      split at hrecv
      · rename_i a As
        have h2 := of_decide_eq_true hrecv
        have hl1 : As.length + 1 = kNA mj := by simpa using hvl
        exact krun hmono (va_runV (As := As.map (krn b ext)) (rest := rest.map (krn b ext)) (b := kad b ext a) S hM ⟨callB_of (kNA mj - 1) hts hG rfl rfl rfl hini2 (hts _ (hw1 (by omega))) ⟨k6.1, k6.2, hpar 99999 g4⟩ hR, hts _ (k3 g1), hts _ (k4 g2)⟩ ⟨kPc_blind, hvirt rfl h2 g3, kpre C1 Y1 (.ref a :: As)⟩ rfl (by rw [List.length_map]; omega) hlsz (by simp [krn]) (hroomW _) hd hf) Y1 kk
      · cases hrecv
    · rw [hkd] at hkind hrecv
      simp only [Bool.and_eq_true, bne_iff_ne, ne_eq, decide_eq_true_eq] at hkind
      obtain ⟨⟨⟨g1, g2⟩, g3⟩, g4⟩ := hkind
      unfold krecv at hrecv
      simp only at hrecv
      split at hrecv
      · rename_i a As
        have h2 := of_decide_eq_true hrecv
        have hl1 : As.length + 1 = kNA mj := by simpa using hvl
        exact krun hmono (va_runVN (As := As.map (krn b ext)) (rest := rest.map (krn b ext)) (b := kad b ext a) S hM ⟨va_cnB (kNA mj - 1) hts hG rfl rfl rfl (hw2 (by omega)) hini2 ⟨k6.1, k6.2, hpar 99999 g4⟩ hR, hts _ (k3 g1), hts _ (k4 g2)⟩ ⟨kPc_blind, hvirt rfl h2 g3, kpre C1 Y1 (.ref a :: As)⟩ rfl (by rw [List.length_map]; omega) hlsz (by simp [krn]) (hroomW _) hd hf) Y1 kk
      · cases hrecv
  · rcases hkd with hkd | hkd
    · rw [hkd] at hkind
      simp only [bne_iff_ne, ne_eq] at hkind
      exact krun hmono (va_runS (As := vs.map (krn b ext)) (rest := rest.map (krn b ext)) S hM ⟨callB_of (kNA mj) hts hG rfl rfl rfl hini2 (hts _ (hw1 (by omega))) ⟨k6.1, k6.2, by have h3 := hpar _ rfl; rw [if_neg hkind] at h3; exact h3⟩ hR, hts _ (k5 hkind)⟩ ⟨kPc_blind, kpre C1 Y1 vs⟩ rfl (by rw [List.length_map]; exact hvl) hlsz rfl (hroomW _) hd hf) Y1 kk
    · rw [hkd] at hkind
      simp only [bne_iff_ne, ne_eq] at hkind
      exact krun hmono (va_runSN (As := vs.map (krn b ext)) (rest := rest.map (krn b ext)) S hM ⟨va_cnB (kNA mj) hts hG rfl rfl rfl (hw2 (by omega)) hini2 ⟨k6.1, k6.2, by have h3 := hpar _ rfl; rw [if_neg hkind] at h3; exact h3⟩ hR, hts _ (k5 hkind), trivial⟩ ⟨kPc_blind, kpre C1 Y1 vs⟩ rfl (by rw [List.length_map]; exact hvl) hlsz rfl (hroomW _) hd hf) Y1 kk
  · rcases hkd with hkd | hkd
    · rw [hkd] at hkind hrecv
      simp only [Bool.and_eq_true, bne_iff_ne, ne_eq, decide_eq_true_eq] at hkind
      obtain ⟨⟨⟨g1, g2⟩, g3⟩, g4⟩ := hkind
      unfold krecv at hrecv
      simp only at hrecv
      split at hrecv
      · rename_i a As
        have hl1 : As.length + 1 = kNA mj := by simpa using hvl
        have hG' := hG
        unfold kwt at hG' hM
        rw [g3] at hG' hM
        exact krun hmono (va_runI (As := As.map (krn b ext)) (rest := rest.map (krn b ext)) (b := kad b ext a) S hM ⟨callB_of (kNA mj - 1) hts hG' rfl rfl rfl hini2 (hts _ (hw1 (by omega))) ⟨k6.1, k6.2, hpar 99999 g4⟩ hR, g2, hts _ (k3 g1)⟩ ⟨kPc_blind, kpre C1 Y1 (.ref a :: As)⟩ rfl (by rw [List.length_map]; omega) hlsz (by simp [krn]) (hroomW _) hd hf) Y1 kk
      · cases hrecv
    · rw [hkd] at hkind hrecv
      simp only [Bool.and_eq_true, bne_iff_ne, ne_eq, decide_eq_true_eq] at hkind
      obtain ⟨⟨⟨g1, g2⟩, g3⟩, g4⟩ := hkind
      unfold krecv at hrecv
      simp only at hrecv
      split at hrecv
      · rename_i a As
        have hl1 : As.length + 1 = kNA mj := by simpa using hvl
        have hG' := hG
        unfold kwt at hG' hM
        rw [g3] at hG' hM
        exact krun hmono (va_runIN (As := As.map (krn b ext)) (rest := rest.map (krn b ext)) (b := kad b ext a) S hM ⟨va_cnB (kNA mj - 1) hts hG' rfl rfl rfl (hw2 (by omega)) hini2 ⟨k6.1, k6.2, hpar 99999 g4⟩ hR, g2, hts _ (k3 g1)⟩ ⟨kPc_blind, kpre C1 Y1 (.ref a :: As)⟩ rfl (by rw [List.length_map]; omega) hlsz (by simp [krn]) (hroomW _) hd hf) Y1 kk
      · cases hrecv
theorem evOK_all (l : Launch) (D : va_G) (dA : Nat → ClassId) (b : Nat) (ext adV : Nat → Nat) : ∀ n, evOK l D dA b ext adV n := by
  intro n
  induction n with
  | zero => intro d mi pc sc lv st M r M' h; simp [ev] at h
  | succ n ih =>
    intro d mi pc sc lv st M r M' h hmi p e R s m args below meth c H locs cells slots Q ls N0 S0 C0 Y hl hfr hlo hroom hend
    simp only [ev] at h
    split at h
    · cases h
    · rename_i ins len k hkat
      obtain ⟨ri, hd, hres, hlen⟩ := kat_raw hkat hmi
      split at h
      · rename_i kc hkc
        split at h
        · rename_i hg
          obtain ⟨g1, g2, g3, g4⟩ := hg
          split at h
          · rename_i d' hdc
            split at h
            · rename_i r1 M1 h1
              have m2 := ev_mono _ _ _ _ _ _ _ _ _ _ h
              refine kcall_ok ih C0 Y hl hd hres hlen hkc g1 g2 g3 g4 hdc h1 hfr hlo ⟨by omega, by omega⟩ (fun H1 locs1 cells1 slots1 Y1 => ?_)
              exact ih d mi (pc + 3) sc _ _ M1 r M' h hmi p e R s m args below meth c H1 locs1 cells1 slots1 Q ls N0 S0 C0 Y1 (hl.sub knx_mem) hfr hlo hroom hend
            · cases h
          · cases h
        · cases h
      · split at h
        · rename_i hir
          split at h
          · rename_i r1 hr1
            simp only [Option.some.injEq, Prod.mk.injEq] at h
            obtain ⟨rfl, rfl⟩ := h
            exact hend pc ls st H locs cells slots ins len k hkat hir hr1 Y
          · cases h
        · split at h
          · rename_i pc1 lv1 st1 M1 h1
            have m2 := ev_mono _ _ _ _ _ _ _ _ _ _ h
            refine stp_ok C0 hd hres hlen h1 Y ⟨by omega, by omega⟩ hl (fun H1 locs1 cells1 slots1 ls1 Y1 hl1 => ?_)
            exact ih d mi pc1 sc _ st1 M1 r M' h hmi p e R s m args below meth c H1 locs1 cells1 slots1 Q ls1 N0 S0 C0 Y1 (hl1.sub knx_mem) hfr hlo hroom hend
          · cases h
end KRUN
