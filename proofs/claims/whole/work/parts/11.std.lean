section KSD
variable {p : Program} {l : Launch} {e : Env} {R : Room} {s : State} {m : MethodId} {args : Array Value} {below : List Frame} {meth : Method} {c : Code} {H : Heap} {locs : List Loc} {cells slots : Nat} {Q : State → Prop} {pc len : Nat} {ls : Array Slot} {D : va_G} {dA : Nat → ClassId} {b : Nat} {ext adV : Nat → Nat} {sc : Option (Nat × (Nat → Int32))} {mi : Nat} {ri ins : Instr} {N0 S0 : Nat} {M M' : hp}
theorem kInv_set {H' : Heap} {a j : Nat} (Y : kInv D dA b ext s N0 S0 M H locs cells slots) (ha1 : 64 ≤ a) (ha2 : a < 64 + hN M) (hat : va_at D vwCl (kad b ext a, kcell dA b ext M' a) H') (hz : H'.size = H.size) (ho : ∀ q : Nat, q ≠ kad b ext a → H'[q]? = H[q]?) (hN' : hN M' = hN M) (hS' : hS M' = hS M) (hK' : hK M' = hK M) (hc : ∀ a' : Nat, a' ≠ a → kcell dA b ext M' a' = kcell dA b ext M a') :
    kInv D dA b ext s N0 S0 M' H' (locs ++ [⟨kad b ext a, j⟩]) cells slots := by
  obtain ⟨hP, hsz, hOK, hS, hn, hs⟩ := Y
  refine ⟨?_, by rw [hz, hN']; exact hsz, fun a' h => by rw [hK']; exact hOK a' (by rw [← hN']; exact h), hS.put hz ho ?_, by rw [hN']; exact hn, by rw [hS']; exact hs⟩
  · have h1 := va_P.set hP (wz_D (dA := dA) (b := b) (ext := ext) (M := M)) (wz_at ha1 ha2) hat ho
    rw [wz_set ha1 hN' rfl hc] at h1
    exact h1
  · show b ≤ kad b ext a
    rw [kad_hi ha1]
    exact Nat.le_add_right _ _
theorem kInv_new {H' : Heap} {kd len sl : Nat} (Y : kInv D dA b ext s N0 S0 M H locs cells slots) (hat : va_at D vwCl (b + hN M, kcell dA b ext (sNew M kd len sl) (64 + hN M)) H') (hz : H'.size = H.size + 1) (ho : ∀ q : Nat, q < H.size → H'[q]? = H[q]?) (hbs : b ≤ s.heap.size) :
    kInv D dA b ext s N0 S0 (sNew M kd len sl) H' locs (cells + 1) (slots + sl) := by
  obtain ⟨hP, hsz, hOK, hVS, hn, hs⟩ := Y
  have hc : ∀ a' : Nat, a' ≠ 64 + hN M → kcell dA b ext (sNew M kd len sl) a' = kcell dA b ext M a' := by
    intro a' h
    have h' : ¬ a' = 64 + M.1 := h
    refine kcell_congr ?_ ?_ ?_ ?_
    · show (if a' = 64 + M.1 then (kd, len) else hK M a') = _
      rw [if_neg h']
    · funext k
      show (if a' = 64 + M.1 then 0 else hI M a' k) = _
      rw [if_neg h']
    · funext k
      show (if a' = 64 + M.1 then 0 else hL M a' k) = _
      rw [if_neg h']
    · funext k
      show (if a' = 64 + M.1 then 0 else hR M a' k) = _
      rw [if_neg h']
  have hN' : hN (sNew M kd len sl) = hN M + 1 := rfl
  have hS' : hS (sNew M kd len sl) = hS M + sl := rfl
  refine ⟨?_, by rw [hz, hN', hsz]; omega, fun a' h => ?_, ⟨Nat.le_trans hVS.1 (by omega), fun x h1 h2 => (ho x (Nat.lt_of_lt_of_le h1 hVS.1)).trans (hVS.2.1 x h1 h2), hVS.2.2⟩, by rw [hN']; omega, by rw [hS']; omega⟩
  · rw [← wz_push hN' rfl hc]
    refine (hP.kept fun k q hk => ho q.1 ((hP k q hk).lt)).app (fun k q hk => ?_)
    have hk0 : k < 1 := (List.getElem?_eq_some_iff.mp hk).1
    rw [show k = 0 by omega] at hk
    cases hk
    exact hat
  · rw [hN'] at h
    have h' : ¬ a' = 64 + M.1 := by
      show ¬ a' = 64 + hN M
      omega
    show (if a' = 64 + M.1 then (kd, len) else hK M a') = _
    rw [if_neg h']
    exact hOK a' (by omega)
theorem kad_new {b : Nat} {ext : Nat → Nat} (N : Nat) : kad b ext (64 + N) = b + N := by
  rw [kad_hi (by omega)]
  omega
theorem kNF_lt {ci k : Nat} (h : k < kNF ci) : ci < 10 := by
  apply Nat.lt_of_not_le
  intro q
  unfold kNF at h
  rw [show kTy.getD ci [] = [] by rw [List.getD_eq_getElem?_getD, List.getElem?_eq_none (by simpa [kTy] using q)]; rfl] at h
  simp at h
/-- a store into an object's field -/
theorem kput (C0 : kCtx D dA b ext adV sc p R s m args meth c mi) {i n : Nat} (hd : decode (kM mi).2.1 pc = .ok (.putfield i, 3)) (hi : khas kKF (kOwn mi) i n = true) (Y : kInv D dA b ext s N0 S0 M H locs cells slots)
    {a : Nat} {v : Value} {r : List Value} (hKa : (hK M a).1 = n / 100) (hk : n % 100 < kNF (n / 100)) (hf : kfin (n / 100) (n % 100) = false ∨ (kIni mi = true ∧ kOwn mi = n / 100)) (hn : narrow (kft (n / 100) (n % 100)) (krn b ext v) = krn b ext v) (hfit : fits (kft (n / 100) (n % 100)) (krn b ext v) = true)
    (hN' : hN M' = hN M) (hS' : hS M' = hS M) (hK' : hK M' = hK M) (hc : ∀ a' : Nat, a' ≠ a → kcell dA b ext M' a' = kcell dA b ext M a') (hv : kfv M' a (n / 100) (n % 100) = v) (hvo : ∀ j, j ≠ n % 100 → kfv M' a (n / 100) j = kfv M a (n / 100) j)
    (kk : ∀ (H' : Heap) (locs' : List Loc), kInv D dA b ext s N0 S0 M' H' locs' cells slots → W p l e R s m args below meth c H' locs' cells slots Q (F0 m (pc + 3) ls r)) : W p l e R s m args below meth c H locs cells slots Q (F0 m pc ls (krn b ext v :: .ref (kad b ext a) :: r)) := by
  obtain ⟨hx, hb, hr, hml, hown, hts, hnest, hlocks, hini, hKs, hAO, hbs, hSF, hsc, hfr, hlo⟩ := C0
  have hci := kNF_lt hk
  obtain ⟨ha1, ha2⟩ := kin Y.2.2.1 (a := a) (by rw [hKa]; omega)
  have hE := kcell_obj (dA := dA) (b := b) (ext := ext) hKa hci
  have hat := Y.1 (a - 64) _ (wz_at ha1 ha2)
  rw [hE] at hat
  obtain ⟨rr, h1, cell, q1, q2, q3, q4⟩ := hat
  have hcl := kcls_at hci
  have hrr : rr = kcls (n / 100) := Option.some.inj (h1.symm.trans hcl)
  subst hrr
  obtain ⟨hNF, hdecl, hty, hfin, -⟩ := kcls_ok (n / 100) hci (n % 100) hk
  have hNk : n % 100 < (kcls (n / 100)).2.2 := by rw [hNF]; exact hk
  obtain ⟨hSl, hfc, kC, hkC, hkind⟩ := hKs.1 _ _ hcl
  obtain ⟨cf, kf, fi, f, hi2, hsl⟩ := hSl _ hNk
  have hin := kcls_ws (n / 100) hci
  have hap := va_apart (own := kOn (kOwn mi)) hts hin (kft (n / 100)) (fun k hk2 => (kcls_ok (n / 100) hci k (by rw [hNF] at hk2; exact hk2)).2.2.1) (kcls_nm (n / 100) hci) hKs hcl
  have hst := (u_facts hfc hkC (u_lays hts hin hNk) hi2).1
  have hsame : s.fieldFound? (kcls (n / 100)).1 ((kcls (n / 100)).2.1 (n % 100)).2.1 ((kcls (n / 100)).2.1 (n % 100)).2.2.1 = some (cf, kf, fi, f) := by rw [← hdecl]; exact hi2
  have hlink := hts _ (khas_F hi)
  have hlen : n % 100 < ((kfs M a (n / 100)).map (krn b ext)).length := by rw [List.length_map, kfs_len]; exact hk
  have hfs : (kfs M' a (n / 100)).map (krn b ext) = ((kfs M a (n / 100)).map (krn b ext)).set (n % 100) (krn b ext v) := by
    rw [kfs_set hk hv hvo, List.map_set]
  have fin : ∀ H' : Heap, H'[kad b ext a]? = some (cell.setSlot f.slot (krn b ext v)) → H'.size = H.size → (∀ q : Nat, q ≠ kad b ext a → H'[q]? = H[q]?) → kInv D dA b ext s N0 S0 M' H' (locs ++ [⟨kad b ext a, f.slot⟩]) cells slots := by
    intro H' e1 e2 e3
    refine kInv_set Y ha1 ha2 ?_ e2 e3 hN' hS' hK' hc
    rw [kcell_obj (dA := dA) (b := b) (ext := ext) (M := M') (a := a) (ci := n / 100) (by rw [hK']; exact hKa) hci, hfs]
    rw [hsl] at e1
    exact ⟨_, hcl, t_OB.to (V := updV (vp_V ((kfs M a (n / 100)).map (krn b ext))) (n % 100) (krn b ext v)) ⟨_, e1, q2, q3, t_set q4 hap hNk (krn b ext v)⟩ (fun j _ => vp_updV_set hlen (krn b ext v) j)⟩
  have hlay := hts _ (hin _ (u_in_lay hNk))
  unfold u_lay at hlay
  rcases hf with hf | ⟨hf1, hf2⟩
  · rw [if_neg (by rw [hfin, hf]; decide)] at hlay
    have h6 := u_store hfc hkC hkind hlay hi2 hty hn hfit
    exact W.putK hx hb (f := f) ⟨hown, hlink, ⟨_, _, _, hsame⟩, hst⟩ (by rw [q2]; exact h6) q1 q3 (by rw [hsl]; exact k2_hasslot (q4 _ hNk)) rfl rfl hd fun H' e1 e2 e3 => kk H' _ (fin H' e1 e2 e3)
  · by_cases hff : ((kcls (n / 100)).2.1 (n % 100)).2.2.2 = true
    · rw [if_pos hff] at hlay
      have hcf : m.cls = cf := by
        obtain ⟨_, _, c', _, _, _, -, -, hf', -, -, -, hown2, -⟩ := Cond.laysFinal_spec hlay
        have e1 : c' = cf := by have := hi2.symm.trans hf'; simp at this; exact this.1.symm
        rw [hdecl] at hown2
        rw [← e1]
        rw [hf2, kOn_cls hci] at hown
        exact Option.some.inj (hown.symm.trans hown2)
      have h6 := u_fits hfc hkC hkind (Or.inr hlay) hi2 hty hn hfit
      exact W.putFinK hx hb hown hlink hsame hst hcf (hini hf1) (by rw [q2]; exact h6) q1 q3 (by rw [hsl]; exact k2_hasslot (q4 _ hNk)) rfl rfl hd fun H' e1 e2 e3 => kk H' _ (fin H' e1 e2 e3)
    · rw [if_neg hff] at hlay
      have h6 := u_store hfc hkC hkind hlay hi2 hty hn hfit
      exact W.putK hx hb (f := f) ⟨hown, hlink, ⟨_, _, _, hsame⟩, hst⟩ (by rw [q2]; exact h6) q1 q3 (by rw [hsl]; exact k2_hasslot (q4 _ hNk)) rfl rfl hd fun H' e1 e2 e3 => kk H' _ (fin H' e1 e2 e3)
theorem kad_ext {b : Nat} {ext : Nat → Nat} {q : Nat} (h : q < 64) : kad b ext q = ext q := by
  unfold kad
  rw [if_pos h]
theorem krq_rv {b : Nat} {ext : Nat → Nat} (q : Nat) : va_rf (krq b ext q) = krn b ext (krv q) := by
  unfold krq krv
  by_cases h : q = 0
  · rw [if_pos h, if_pos h]; rfl
  · rw [if_neg h, if_neg h]; rfl
theorem vin_of {i : Int32} {n : Nat} (h : vin i n = true) : vp_in i n := by
  unfold vin at h
  have h2 := of_decide_eq_true h
  exact h2
theorem kfv_sI_ne {a ci k j : Nat} {x : Int32} (h : j ≠ k) : kfv (sI M a k x) a ci j = kfv M a ci j := by
  unfold kfv
  split <;> simp [hI, hL, hR, sI, up, h]
theorem kfv_sL_ne {a ci k j : Nat} {x : Int64} (h : j ≠ k) : kfv (sL M a k x) a ci j = kfv M a ci j := by
  unfold kfv
  split <;> simp [hI, hL, hR, sL, up, h]
theorem kfv_sR_ne {a ci k j : Nat} {x : Nat} (h : j ≠ k) : kfv (sR M a k x) a ci j = kfv M a ci j := by
  unfold kfv
  split <;> simp [hI, hL, hR, sR, up, h]
theorem kread (C0 : kCtx D dA b ext adV sc p R s m args meth c mi) (Y : kInv D dA b ext s N0 S0 M H locs cells slots) {a : Nat} (ha : (hK M a).1 < 99) : 64 ≤ a ∧ a < 64 + hN M ∧ (wz dA b ext M)[a - 64]? = some (kad b ext a, kcell dA b ext M a) := by
  obtain ⟨h1, h2⟩ := kin Y.2.2.1 ha
  exact ⟨h1, h2, wz_at h1 h2⟩
theorem kgetf_ok (C0 : kCtx D dA b ext adV sc p R s m args meth c mi) {i n : Nat} (hd : decode (kM mi).2.1 pc = .ok (.getfield i, 3)) (hi : khas kKF (kOwn mi) i n = true) (Y : kInv D dA b ext s N0 S0 M H locs cells slots) {a : Nat} {r : List Value} (hKa : (hK M a).1 = n / 100) (hk : n % 100 < kNF (n / 100))
    (kk : W p l e R s m args below meth c H locs cells slots Q (F0 m (pc + 3) ls (krn b ext (kfv M a (n / 100) (n % 100)) :: r))) : W p l e R s m args below meth c H locs cells slots Q (F0 m pc ls (.ref (kad b ext a) :: r)) := by
  have C1 := C0
  obtain ⟨hx, hb, hr, hml, hown, hts, hnest, hlocks, hini, hKs, hAO, hbs, hSF, hsc, hfr, hlo⟩ := C0
  have hci := kNF_lt hk
  obtain ⟨ha1, ha2, hw⟩ := kread C1 Y (a := a) (by rw [hKa]; omega)
  rw [kcell_obj (dA := dA) (b := b) (ext := ext) hKa hci] at hw
  obtain ⟨hNF, hdecl, hty, hfin, -⟩ := kcls_ok (n / 100) hci (n % 100) hk
  exact va_get (D := D) (ci := n / 100) (C := (kcls (n / 100)).1) (T := (kcls (n / 100)).2.1) (N := (kcls (n / 100)).2.2) hx hb hts (kcls_ws _ hci) hown hKs Y.1 (a - 64) hw (kcls_at hci) (n % 100) (by rw [hNF]; exact hk) (hts _ (khas_F hi)) (fun x hx2 => by rw [← hdecl]; exact hx2) (by rw [List.getElem?_map, kfs_at hk]; rfl) hd kk
theorem kiast_ok (C0 : kCtx D dA b ext adV sc p R s m args meth c mi) (hd : decode (kM mi).2.1 pc = .ok (.iastore, 1)) (Y : kInv D dA b ext s N0 S0 M H locs cells slots) {a : Nat} {i x : Int32} {r : List Value} (hKa : (hK M a).1 = 20) (hv : vin i (hK M a).2 = true)
    (kk : ∀ (H' : Heap) (locs' : List Loc), kInv D dA b ext s N0 S0 (sI M a i.toNatClampNeg x) H' locs' cells slots → W p l e R s m args below meth c H' locs' cells slots Q (F0 m (pc + 1) ls r)) : W p l e R s m args below meth c H locs cells slots Q (F0 m pc ls (.int x :: .int i :: .ref (kad b ext a) :: r)) := by
  have C1 := C0
  obtain ⟨hx, hb, hr, hml, hown, hts, hnest, hlocks, hini, hKs, hAO, hbs, hSF, hsc, hfr, hlo⟩ := C0
  obtain ⟨ha1, ha2, hw⟩ := kread C1 Y (a := a) (by rw [hKa]; omega)
  have hin := vin_of hv
  have hat := Y.1 _ _ hw
  rw [kcell_20 hKa] at hat
  refine W.iast hx hb hat ((hKs.2 0 _ rfl).1 _ _) (fun q => by cases q) (by show ¬ (i < 0 ∨ (arrV _ _ _).slots.size ≤ _); rw [arrV_size]; exact hin) rfl rfl hd fun H' e1 e2 e3 => kk H' _ (kInv_set Y ha1 ha2 ?_ e2 e3 rfl rfl rfl kcell_sI)
  rw [kcell_20 (M := sI M a i.toNatClampNeg x) (a := a) hKa]
  show H'[kad b ext a]? = some (arrV _ _ (fun q => .int (up (hI M) a i.toNatClampNeg x a q)))
  refine e1.trans ?_
  show some ((arrV _ _ (fun j => .int (hI M a j))).setSlot _ _) = _
  rw [arrV_store]
  congr 2
  funext q
  show updV _ _ _ q = .int (up (hI M) a i.toNatClampNeg x a q)
  rw [up_at]
  by_cases hq : q = i.toNatClampNeg
  · simp [updV, hq]
  · simp [updV, hq]
theorem kzast_ok (C0 : kCtx D dA b ext adV sc p R s m args meth c mi) (hd : decode (kM mi).2.1 pc = .ok (.bastore, 1)) (Y : kInv D dA b ext s N0 S0 M H locs cells slots) {a : Nat} {i x : Int32} {r : List Value} (hKa : (hK M a).1 = 22) (hv : vin i (hK M a).2 = true)
    (kk : ∀ (H' : Heap) (locs' : List Loc), kInv D dA b ext s N0 S0 (sI M a i.toNatClampNeg (vp_nar .boolean x)) H' locs' cells slots → W p l e R s m args below meth c H' locs' cells slots Q (F0 m (pc + 1) ls r)) : W p l e R s m args below meth c H locs cells slots Q (F0 m pc ls (.int x :: .int i :: .ref (kad b ext a) :: r)) := by
  have C1 := C0
  obtain ⟨hx, hb, hr, hml, hown, hts, hnest, hlocks, hini, hKs, hAO, hbs, hSF, hsc, hfr, hlo⟩ := C0
  obtain ⟨ha1, ha2, hw⟩ := kread C1 Y (a := a) (by rw [hKa]; omega)
  have hin := vin_of hv
  have hat := Y.1 _ _ hw
  rw [kcell_22 hKa] at hat
  refine W.zast hx hb hat ((hKs.2 2 _ rfl).1 _ _) (fun q => by cases q) (by show ¬ (i < 0 ∨ (arrV _ _ _).slots.size ≤ _); rw [arrV_size]; exact hin) rfl rfl hd fun H' e1 e2 e3 => kk H' _ (kInv_set Y ha1 ha2 ?_ e2 e3 rfl rfl rfl kcell_sI)
  rw [kcell_22 (M := sI M a i.toNatClampNeg (vp_nar .boolean x)) (a := a) hKa]
  show H'[kad b ext a]? = some (arrV _ _ (fun q => .int (up (hI M) a i.toNatClampNeg (vp_nar .boolean x) a q)))
  refine e1.trans ?_
  show some ((arrV _ _ (fun j => .int (hI M a j))).setSlot _ _) = _
  rw [arrV_store]
  congr 2
  funext q
  show updV _ _ _ q = .int (up (hI M) a i.toNatClampNeg (vp_nar .boolean x) a q)
  rw [up_at]
  by_cases hq : q = i.toNatClampNeg
  · simp [updV, hq, vp_nar]
    try rfl
  · simp [updV, hq]
theorem klast_ok (C0 : kCtx D dA b ext adV sc p R s m args meth c mi) (hd : decode (kM mi).2.1 pc = .ok (.lastore, 1)) (Y : kInv D dA b ext s N0 S0 M H locs cells slots) {a : Nat} {i : Int32} {x : Int64} {r : List Value} (hKa : (hK M a).1 = 21) (hv : vin i (hK M a).2 = true)
    (kk : ∀ (H' : Heap) (locs' : List Loc), kInv D dA b ext s N0 S0 (sL M a i.toNatClampNeg x) H' locs' cells slots → W p l e R s m args below meth c H' locs' cells slots Q (F0 m (pc + 1) ls r)) : W p l e R s m args below meth c H locs cells slots Q (F0 m pc ls (.long x :: .int i :: .ref (kad b ext a) :: r)) := by
  have C1 := C0
  obtain ⟨hx, hb, hr, hml, hown, hts, hnest, hlocks, hini, hKs, hAO, hbs, hSF, hsc, hfr, hlo⟩ := C0
  obtain ⟨ha1, ha2, hw⟩ := kread C1 Y (a := a) (by rw [hKa]; omega)
  have hin := vin_of hv
  have hat := Y.1 _ _ hw
  rw [kcell_21 hKa] at hat
  refine W.last hx hb hat ((hKs.2 1 _ rfl).1 _ _) (fun q => by cases q) (by show ¬ (i < 0 ∨ (arrV _ _ _).slots.size ≤ _); rw [arrV_size]; exact hin) rfl rfl hd fun H' e1 e2 e3 => kk H' _ (kInv_set Y ha1 ha2 ?_ e2 e3 rfl rfl rfl kcell_sL)
  rw [kcell_21 (M := sL M a i.toNatClampNeg x) (a := a) hKa]
  show H'[kad b ext a]? = some (arrV _ _ (fun q => .long (up (hL M) a i.toNatClampNeg x a q)))
  refine e1.trans ?_
  show some ((arrV _ _ (fun j => .long (hL M a j))).setSlot _ _) = _
  rw [arrV_store]
  congr 2
  funext q
  show updV _ _ _ q = .long (up (hL M) a i.toNatClampNeg x a q)
  rw [up_at]
  by_cases hq : q = i.toNatClampNeg
  · simp [updV, hq]
  · simp [updV, hq]
theorem kaast_ok (C0 : kCtx D dA b ext adV sc p R s m args meth c mi) (hd : decode (kM mi).2.1 pc = .ok (.aastore, 1)) (Y : kInv D dA b ext s N0 S0 M H locs cells slots) {a v kd ci : Nat} {i : Int32} {r : List Value} (hKa : (hK M a).1 = kd) (hkd : (kd = 23 ∧ ci = 7) ∨ (kd = 24 ∧ ci = 0)) (hKv : (hK M v).1 = ci) (hv : vin i (hK M a).2 = true)
    (kk : ∀ (H' : Heap) (locs' : List Loc), kInv D dA b ext s N0 S0 (sR M a i.toNatClampNeg v) H' locs' cells slots → W p l e R s m args below meth c H' locs' cells slots Q (F0 m (pc + 1) ls r)) : W p l e R s m args below meth c H locs cells slots Q (F0 m pc ls (.ref (kad b ext v) :: .int i :: .ref (kad b ext a) :: r)) := by
  have C1 := C0
  obtain ⟨hx, hb, hr, hml, hown, hts, hnest, hlocks, hini, hKs, hAO, hbs, hSF, hsc, hfr, hlo⟩ := C0
  have hci : ci < 10 := by omega
  obtain ⟨ha1, ha2, hw⟩ := kread C1 Y (a := a) (by rw [hKa]; omega)
  obtain ⟨hv1, hv2, hwv⟩ := kread C1 Y (a := v) (by rw [hKv]; omega)
  have hin := vin_of hv
  have hlt : i.toNatClampNeg < (hK M a).2 := Nat.not_le.mp fun q => hin (Or.inr q)
  have h0 : ¬ i < 0 := fun q => hin (Or.inl q)
  have hat := Y.1 _ _ hw
  have hatv := Y.1 _ _ hwv
  rw [kcell_obj (dA := dA) (b := b) (ext := ext) hKv hci] at hatv
  obtain ⟨r', hr', cellV, g1, g2, g3, -⟩ := hatv
  have hcls := (hKs.1 ci _ (kcls_at hci)).2
  have hv64 : ¬ v = 0 := by omega
  have key : ∀ (t0 : Nat) (tyN : String), (ktys dA)[t0]? = some (dA t0, .object tyN) → (kcls ci).1 = tyN → kcell dA b ext M a = .inl (dA t0, (hK M a).2, .inr (.inr (.inr (.inr (fun i => krq b ext (hR M a i)))))) → kcell dA b ext (sR M a i.toNatClampNeg v) a = .inl (dA t0, (hK M a).2, .inr (.inr (.inr (.inr (fun j => krq b ext (hR (sR M a i.toNatClampNeg v) a j)))))) → W p l e R s m args below meth c H locs cells slots Q (F0 m pc ls (.ref (kad b ext v) :: .int i :: .ref (kad b ext a) :: r)) := by
    intro t0 tyN ht hn hc1 hc2
    rw [hc1] at hat
    obtain ⟨kA, comp, k1, k2, k3, -⟩ := (hKs.2 t0 _ ht).2
    have hcomp : comp = D.1 ci := Option.some.inj (k3.symm.trans (by rw [← hn]; exact hcls.1))
    subst hcomp
    obtain ⟨kC, hkC, -⟩ := hcls.2
    refine W.aast hx hb hat (fun q h => by cases h) (fun h => by cases h) k1 k2 rfl hkC ⟨h0, by show _ < (arrV _ _ _).slots.size; rw [arrV_size]; exact hlt⟩ g1 (fun q h => by rw [g3] at h; cases h) (by rw [g2]; exact hkC) (by rw [g2]; exact va_assign hcls) rfl rfl hd fun H' e1 e2 e3 => kk H' _ (kInv_set Y ha1 ha2 ?_ e2 e3 rfl rfl rfl kcell_sR)
    rw [hc2]
    show H'[kad b ext a]? = some (arrV _ _ (fun q => va_rf (krq b ext (up (hR M) a i.toNatClampNeg v a q))))
    refine e1.trans ?_
    show some ((arrV _ _ (fun j => va_rf (krq b ext (hR M a j)))).setSlot _ _) = _
    rw [arrV_store]
    congr 2
    funext q
    show updV _ _ _ q = va_rf (krq b ext (up (hR M) a i.toNatClampNeg v a q))
    rw [up_at]
    by_cases hq : q = i.toNatClampNeg
    · simp [updV, hq, krq, hv64, va_rf]
    · simp [updV, hq]
  rcases hkd with ⟨rfl, rfl⟩ | ⟨rfl, rfl⟩
  · exact key 3 RX7 rfl rfl (kcell_23 hKa) (kcell_23 (M := sR M a i.toNatClampNeg v) hKa)
  · exact key 4 RX0 rfl rfl (kcell_24 hKa) (kcell_24 (M := sR M a i.toNatClampNeg v) hKa)
theorem kaastN_ok (C0 : kCtx D dA b ext adV sc p R s m args meth c mi) (hd : decode (kM mi).2.1 pc = .ok (.aastore, 1)) (Y : kInv D dA b ext s N0 S0 M H locs cells slots) {a : Nat} {i : Int32} {r : List Value} (hKa : (hK M a).1 = 23 ∨ (hK M a).1 = 24) (hv : vin i (hK M a).2 = true)
    (kk : ∀ (H' : Heap) (locs' : List Loc), kInv D dA b ext s N0 S0 (sR M a i.toNatClampNeg 0) H' locs' cells slots → W p l e R s m args below meth c H' locs' cells slots Q (F0 m (pc + 1) ls r)) : W p l e R s m args below meth c H locs cells slots Q (F0 m pc ls (.null :: .int i :: .ref (kad b ext a) :: r)) := by
  have C1 := C0
  obtain ⟨hx, hb, hr, hml, hown, hts, hnest, hlocks, hini, hKs, hAO, hbs, hSF, hsc, hfr, hlo⟩ := C0
  obtain ⟨ha1, ha2, hw⟩ := kread C1 Y (a := a) (by omega)
  have hin := vin_of hv
  have hat := Y.1 _ _ hw
  have key : ∀ (t0 : Nat) (tyN : String), (ktys dA)[t0]? = some (dA t0, .object tyN) → kcell dA b ext M a = .inl (dA t0, (hK M a).2, .inr (.inr (.inr (.inr (fun i => krq b ext (hR M a i)))))) → kcell dA b ext (sR M a i.toNatClampNeg 0) a = .inl (dA t0, (hK M a).2, .inr (.inr (.inr (.inr (fun j => krq b ext (hR (sR M a i.toNatClampNeg 0) a j)))))) → W p l e R s m args below meth c H locs cells slots Q (F0 m pc ls (.null :: .int i :: .ref (kad b ext a) :: r)) := by
    intro t0 tyN ht hc1 hc2
    rw [hc1] at hat
    refine va_WaastN (C := tyN) hx hb hat ((hKs.2 t0 _ ht).1 _ _) (fun h => by cases h) (by show ¬ (i < 0 ∨ (arrV _ _ _).slots.size ≤ _); rw [arrV_size]; exact hin) rfl rfl hd fun H' e1 e2 e3 => kk H' _ (kInv_set Y ha1 ha2 ?_ e2 e3 rfl rfl rfl kcell_sR)
    rw [hc2]
    show H'[kad b ext a]? = some (arrV _ _ (fun q => va_rf (krq b ext (up (hR M) a i.toNatClampNeg 0 a q))))
    refine e1.trans ?_
    show some ((arrV _ _ (fun j => va_rf (krq b ext (hR M a j)))).setSlot _ _) = _
    rw [arrV_store]
    congr 2
    funext q
    show updV _ _ _ q = va_rf (krq b ext (up (hR M) a i.toNatClampNeg 0 a q))
    rw [up_at]
    by_cases hq : q = i.toNatClampNeg
    · simp [updV, hq, krq, va_rf]
    · simp [updV, hq]
  rcases hKa with hKa | hKa
  · exact key 3 RX7 rfl (kcell_23 hKa) (kcell_23 (M := sR M a i.toNatClampNeg 0) hKa)
  · exact key 4 RX0 rfl (kcell_24 hKa) (kcell_24 (M := sR M a i.toNatClampNeg 0) hKa)
end KSD
