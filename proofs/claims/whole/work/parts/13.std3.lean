section KSF
variable {p : Program} {l : Launch} {e : Env} {R : Room} {s : State} {m : MethodId} {args : Array Value} {below : List Frame} {meth : Method} {c : Code} {H : Heap} {locs : List Loc} {cells slots : Nat} {Q : State → Prop} {pc len : Nat} {ls : Array Slot} {D : va_G} {dA : Nat → ClassId} {b : Nat} {ext adV : Nat → Nat} {sc : Option (Nat × (Nat → Int32))} {mi : Nat} {ri ins : Instr} {N0 S0 : Nat} {M M' : hp}
theorem stD_ok (C0 : kCtx D dA b ext adV sc p R s m args meth c mi) (hd : decode (kM mi).2.1 pc = .ok (ri, len)) (hres : kres (kOwn mi) ri ins = true) (hlen : klen ri len = true) {st st' : List Value} (h : stD sc (kIni mi) (kOwn mi) ins st M = some (st', M')) (Y : kInv D dA b ext s N0 S0 M H locs cells slots) (hroom : hN M' - N0 ≤ R.cells ∧ hS M' - S0 ≤ R.slots)
    (kk : ∀ (H' : Heap) (locs' : List Loc) (cells' slots' : Nat), kInv D dA b ext s N0 S0 M' H' locs' cells' slots' → W p l e R s m args below meth c H' locs' cells' slots' Q (F0 m (pc + len) ls (st'.map (krn b ext)))) : W p l e R s m args below meth c H locs cells slots Q (F0 m pc ls (st.map (krn b ext))) := by
  have C1 := C0
  have Y0 := Y
  obtain ⟨hx, hb, hr, hml, hown, hts, hnest, hlocks, hini, hKs, hAO, hbs, hSF, hsc, hfr, hlo⟩ := C0
  obtain ⟨-, -, -, hVS, hn0, hs0⟩ := Y0
  cases ins
  case getfield n =>
    obtain ⟨i, rfl, hi⟩ := kres_getf hres
    have e : len = 3 := by simpa [klen] using hlen
    subst e
    simp only [stD] at h
    split at h
    · split at h
      · rename_i hc
        simp only [Option.some.injEq, Prod.mk.injEq] at h
        obtain ⟨rfl, rfl⟩ := h
        exact kgetf_ok C1 hd hi Y hc.1 hc.2 (kk H locs cells slots Y)
      · cases h
    · cases h
  case putfield n =>
    obtain ⟨i, rfl, hi⟩ := kres_putf hres
    have e : len = 3 := by simpa [klen] using hlen
    subst e
    simp only [stD] at h
    split at h
    · rename_i hf
      obtain ⟨hf, hk⟩ := hf
      have hty := (kcls_ok (n / 100) (kNF_lt hk) (n % 100) hk).2.2.2.2
      split at h
      · split at h
        · rename_i hc
          obtain ⟨c1, c2, c3, c4⟩ := hc
          simp only [Option.some.injEq, Prod.mk.injEq] at h
          obtain ⟨rfl, rfl⟩ := h
          rename_i x a r
          exact kput (M' := sI M a (n % 100) x) C1 hd hi Y (v := .int x) c1 hk hf c3 c4 rfl rfl rfl kcell_sI (by unfold kfv; rw [c2]; simp [hI, sI, up]) (fun j hj => kfv_sI_ne hj) (fun H' locs' Y' => kk H' locs' _ _ Y')
        · cases h
      · split at h
        · rename_i hc
          obtain ⟨c1, c2⟩ := hc
          simp only [Option.some.injEq, Prod.mk.injEq] at h
          obtain ⟨rfl, rfl⟩ := h
          rename_i x a r
          rw [c2] at hty
          have ht : kft (n / 100) (n % 100) = .long := of_decide_eq_true hty
          exact kput (M' := sL M a (n % 100) x) C1 hd hi Y (v := .long x) c1 hk hf (by rw [ht]; rfl) (by rw [ht]; rfl) rfl rfl rfl kcell_sL (by unfold kfv; rw [c2]; simp [hL, sL, up]) (fun j hj => kfv_sL_ne hj) (fun H' locs' Y' => kk H' locs' _ _ Y')
        · cases h
      · split at h
        · rename_i hc
          obtain ⟨c1, c2, c3⟩ := hc
          simp only [Option.some.injEq, Prod.mk.injEq] at h
          obtain ⟨rfl, rfl⟩ := h
          rename_i q a r
          rw [c2] at hty
          have ht : narrow (kft (n / 100) (n % 100)) (krn b ext (.ref q)) = krn b ext (.ref q) ∧ fits (kft (n / 100) (n % 100)) (krn b ext (.ref q)) = true := by
            unfold ktyok at hty
            simp only at hty
            split at hty
            · rename_i h1; rw [h1]; exact ⟨rfl, rfl⟩
            · rename_i h1; rw [h1]; exact ⟨rfl, rfl⟩
            · cases hty
          have hq : ¬ q = 0 := fun z => absurd c3 (by rw [z]; decide)
          exact kput (M' := sR M a (n % 100) q) C1 hd hi Y (v := .ref q) c1 hk hf ht.1 ht.2 rfl rfl rfl kcell_sR (by unfold kfv; rw [c2]; simp [hR, sR, up, krv, hq]) (fun j hj => kfv_sR_ne hj) (fun H' locs' Y' => kk H' locs' _ _ Y')
        · cases h
      · cases h
    · cases h
  case arraylength =>
    have e0 := kres_plain hres rfl
    subst e0
    have e : len = 1 := by simpa [klen] using hlen
    subst e
    simp only [stD] at h
    split at h
    · split at h
      · rename_i ha
        subst ha
        split at h
        · rename_i n f
          simp only [Option.some.injEq, Prod.mk.injEq] at h
          obtain ⟨rfl, rfl⟩ := h
          obtain ⟨hX, h1, h2⟩ := hsc _ _ rfl
          exact va_slen hx hb hX h1 (Nat.not_le.mpr h2) hVS hd (kk H locs cells slots Y)
        · cases h
      · split at h
        · rename_i a r ha hc
          simp only [Option.some.injEq, Prod.mk.injEq] at h
          obtain ⟨rfl, rfl⟩ := h
          obtain ⟨ha1, ha2, hw⟩ := kread C1 Y (a := a) (by omega)
          have kk' := kk H locs cells slots Y
          rcases (show (hK M a).1 = 20 ∨ (hK M a).1 = 21 ∨ (hK M a).1 = 22 ∨ (hK M a).1 = 23 ∨ (hK M a).1 = 24 by omega) with q | q | q | q | q
          · rw [kcell_20 q] at hw
            exact va_alen hx hb hKs Y.1 (a - 64) 0 hw rfl rfl hd kk'
          · rw [kcell_21 q] at hw
            exact va_alen hx hb hKs Y.1 (a - 64) 1 hw rfl rfl hd kk'
          · rw [kcell_22 q] at hw
            exact va_alen hx hb hKs Y.1 (a - 64) 2 hw rfl rfl hd kk'
          · rw [kcell_23 q] at hw
            exact va_alen hx hb hKs Y.1 (a - 64) 3 hw rfl rfl hd kk'
          · rw [kcell_24 q] at hw
            exact va_alen hx hb hKs Y.1 (a - 64) 4 hw rfl rfl hd kk'
        · cases h
    · cases h
  case iaload =>
    have e0 := kres_plain hres rfl
    subst e0
    have e : len = 1 := by simpa [klen] using hlen
    subst e
    simp only [stD] at h
    split at h
    · split at h
      · rename_i ha
        subst ha
        split at h
        · rename_i n f hs
          split at h
          · rename_i hv
            simp only [Option.some.injEq, Prod.mk.injEq] at h
            obtain ⟨rfl, rfl⟩ := h
            obtain ⟨hX, h1, h2⟩ := hsc _ _ rfl
            exact va_sld hx hb hX h1 (Nat.not_le.mpr h2) hVS (vin_of hv) hd (kk H locs cells slots Y)
          · cases h
        · cases h
      · split at h
        · rename_i i a r ha hc
          simp only [Option.some.injEq, Prod.mk.injEq] at h
          obtain ⟨rfl, rfl⟩ := h
          obtain ⟨ha1, ha2, hw⟩ := kread C1 Y (a := a) (by omega)
          rw [kcell_20 hc.1] at hw
          exact va_iald hx hb hKs Y.1 (a - 64) 0 hw rfl (vin_of hc.2) hd (kk H locs cells slots Y)
        · cases h
    · cases h
  case baload =>
    have e0 := kres_plain hres rfl
    subst e0
    have e : len = 1 := by simpa [klen] using hlen
    subst e
    simp only [stD] at h
    split at h
    · split at h
      · rename_i i a r hc
        simp only [Option.some.injEq, Prod.mk.injEq] at h
        obtain ⟨rfl, rfl⟩ := h
        obtain ⟨ha1, ha2, hw⟩ := kread C1 Y (a := a) (by omega)
        rw [kcell_22 hc.1] at hw
        exact va_zald hx hb hKs Y.1 (a - 64) 2 hw rfl (vin_of hc.2) hd (kk H locs cells slots Y)
      · cases h
    · cases h
  case laload =>
    have e0 := kres_plain hres rfl
    subst e0
    have e : len = 1 := by simpa [klen] using hlen
    subst e
    simp only [stD] at h
    split at h
    · split at h
      · rename_i i a r hc
        simp only [Option.some.injEq, Prod.mk.injEq] at h
        obtain ⟨rfl, rfl⟩ := h
        obtain ⟨ha1, ha2, hw⟩ := kread C1 Y (a := a) (by omega)
        rw [kcell_21 hc.1] at hw
        exact va_lald hx hb hKs Y.1 (a - 64) 1 hw rfl (vin_of hc.2) hd (kk H locs cells slots Y)
      · cases h
    · cases h
  case aaload =>
    have e0 := kres_plain hres rfl
    subst e0
    have e : len = 1 := by simpa [klen] using hlen
    subst e
    simp only [stD] at h
    split at h
    · split at h
      · rename_i i a r hc
        simp only [Option.some.injEq, Prod.mk.injEq] at h
        obtain ⟨rfl, rfl⟩ := h
        obtain ⟨ha1, ha2, hw⟩ := kread C1 Y (a := a) (by omega)
        have kk' := kk H locs cells slots Y
        rw [List.map_cons, ← krq_rv] at kk'
        rcases hc with ⟨q | q, hv⟩
        · rw [kcell_23 q] at hw
          exact va_aldq (C := RX7) hx hb hKs Y.1 (a - 64) 3 hw rfl (vin_of hv) hd kk'
        · rw [kcell_24 q] at hw
          exact va_aldq (C := RX0) hx hb hKs Y.1 (a - 64) 4 hw rfl (vin_of hv) hd kk'
      · cases h
    · cases h
  case iastore =>
    have e0 := kres_plain hres rfl
    subst e0
    have e : len = 1 := by simpa [klen] using hlen
    subst e
    simp only [stD] at h
    split at h
    · split at h
      · rename_i hc
        simp only [Option.some.injEq, Prod.mk.injEq] at h
        obtain ⟨rfl, rfl⟩ := h
        exact kiast_ok C1 hd Y hc.1 hc.2 (fun H' locs' Y' => kk H' locs' _ _ Y')
      · cases h
    · cases h
  case bastore =>
    have e0 := kres_plain hres rfl
    subst e0
    have e : len = 1 := by simpa [klen] using hlen
    subst e
    simp only [stD] at h
    split at h
    · split at h
      · rename_i hc
        simp only [Option.some.injEq, Prod.mk.injEq] at h
        obtain ⟨rfl, rfl⟩ := h
        exact kzast_ok C1 hd Y hc.1 hc.2 (fun H' locs' Y' => kk H' locs' _ _ Y')
      · cases h
    · cases h
  case lastore =>
    have e0 := kres_plain hres rfl
    subst e0
    have e : len = 1 := by simpa [klen] using hlen
    subst e
    simp only [stD] at h
    split at h
    · split at h
      · rename_i hc
        simp only [Option.some.injEq, Prod.mk.injEq] at h
        obtain ⟨rfl, rfl⟩ := h
        exact klast_ok C1 hd Y hc.1 hc.2 (fun H' locs' Y' => kk H' locs' _ _ Y')
      · cases h
    · cases h
  case aastore =>
    have e0 := kres_plain hres rfl
    subst e0
    have e : len = 1 := by simpa [klen] using hlen
    subst e
    simp only [stD] at h
    split at h
    · split at h
      · rename_i hc
        simp only [Option.some.injEq, Prod.mk.injEq] at h
        obtain ⟨rfl, rfl⟩ := h
        obtain ⟨hc, hv⟩ := hc
        rcases hc with ⟨q1, q2⟩ | ⟨q1, q2⟩
        · exact kaast_ok C1 hd Y q1 (Or.inl ⟨rfl, rfl⟩) q2 hv (fun H' locs' Y' => kk H' locs' _ _ Y')
        · exact kaast_ok C1 hd Y q1 (Or.inr ⟨rfl, rfl⟩) q2 hv (fun H' locs' Y' => kk H' locs' _ _ Y')
      · cases h
    · split at h
      · rename_i hc
        simp only [Option.some.injEq, Prod.mk.injEq] at h
        obtain ⟨rfl, rfl⟩ := h
        exact kaastN_ok C1 hd Y hc.1 hc.2 (fun H' locs' Y' => kk H' locs' _ _ Y')
      · cases h
    · cases h
  case newarray t =>
    have e0 := kres_plain hres rfl
    subst e0
    have e : len = 2 := by simpa [klen] using hlen
    subst e
    simp only [stD] at h
    split at h
    · rename_i n r
      split at h
      · rename_i kd hkd
        split at h
        · rename_i hc
          simp only [Option.some.injEq, Prod.mk.injEq] at h
          obtain ⟨rfl, rfl⟩ := h
          have r1 : hN M + 1 - N0 ≤ R.cells := hroom.1
          have r2 : hS M + n.toNatClampNeg - S0 ≤ R.slots := hroom.2
          exact knewa_ok C1 hkd hd Y hc.1 hc.2 ⟨by omega, by omega⟩ (fun H' Y' => kk H' locs _ _ Y')
        · cases h
      · cases h
    · cases h
  case anewarray kd =>
    obtain ⟨i, rfl, hi⟩ := kres_anew hres
    have e : len = 3 := by simpa [klen] using hlen
    subst e
    simp only [stD] at h
    split at h
    · rename_i n r
      split at h
      · rename_i hc
        simp only [Option.some.injEq, Prod.mk.injEq] at h
        obtain ⟨rfl, rfl⟩ := h
        have r1 : hN M + 1 - N0 ≤ R.cells := hroom.1
        have r2 : hS M + n.toNatClampNeg - S0 ≤ R.slots := hroom.2
        exact kanew_ok C1 hc.1 hi hd Y hc.2.1 hc.2.2 ⟨by omega, by omega⟩ (fun H' Y' => kk H' locs _ _ Y')
      · cases h
    · cases h
  case new ci =>
    obtain ⟨i, rfl, hi⟩ := kres_new hres
    have e : len = 3 := by simpa [klen] using hlen
    subst e
    simp only [stD] at h
    split at h
    · rename_i hc
      simp only [Option.some.injEq, Prod.mk.injEq] at h
      obtain ⟨rfl, rfl⟩ := h
      have r1 : hN M + 1 - N0 ≤ R.cells := hroom.1
      have r2 : hS M + kNF ci - S0 ≤ R.slots := hroom.2
      exact knew_ok C1 hc hi hd Y ⟨by omega, by omega⟩ (fun H' Y' => kk H' locs _ _ Y')
    · cases h
  all_goals exact absurd h (by simp [stD])
/-- one step of the second machine -/
theorem stp_ok (C0 : kCtx D dA b ext adV sc p R s m args meth c mi) (hd : decode (kM mi).2.1 pc = .ok (ri, len)) (hres : kres (kOwn mi) ri ins = true) (hlen : klen ri len = true) {lv lv' : List (Nat × Value)} {st st' : List Value} {pc' : Nat} (h : stp sc (kIni mi) (kOwn mi) (kM mi).2.2.1 ins pc len lv st M = some (pc', lv', st', M')) (Y : kInv D dA b ext s N0 S0 M H locs cells slots) (hroom : hN M' - N0 ≤ R.cells ∧ hS M' - S0 ≤ R.slots) (hl : kLv b ext ls (kM mi).2.2.1 lv)
    (kk : ∀ (H' : Heap) (locs' : List Loc) (cells' slots' : Nat) (ls' : Array Slot), kInv D dA b ext s N0 S0 M' H' locs' cells' slots' → kLv b ext ls' (kM mi).2.2.1 lv' → W p l e R s m args below meth c H' locs' cells' slots' Q (F0 m pc' ls' (st'.map (krn b ext)))) : W p l e R s m args below meth c H locs cells slots Q (F0 m pc ls (st.map (krn b ext))) := by
  unfold stp at h
  split at h
  · rename_i st1 h1
    simp only [Option.some.injEq, Prod.mk.injEq] at h
    obtain ⟨rfl, rfl, rfl, rfl⟩ := h
    exact stA_ok C0 hd hres hlen h1 Y.2.2.2.1 (by rw [hl.1, C0.2.2.2.1]) (by obtain ⟨-, -, -, -, ⟨a1, a2⟩, ⟨a3, a4⟩⟩ := Y; omega) (kk H locs cells slots ls Y hl)
  · split at h
    · rename_i lv1 st1 h1
      simp only [Option.some.injEq, Prod.mk.injEq] at h
      obtain ⟨rfl, rfl, rfl, rfl⟩ := h
      exact stB_ok C0 hd hres hlen h1 hl (fun ls' hl' => kk H locs cells slots ls' Y hl')
    · split at h
      · rename_i pc1 st1 h1
        simp only [Option.some.injEq, Prod.mk.injEq] at h
        obtain ⟨rfl, rfl, rfl, rfl⟩ := h
        exact stC_ok C0 hd hres hlen h1 (kk H locs cells slots ls Y hl)
      · split at h
        · rename_i st1 M1 h1
          simp only [Option.some.injEq, Prod.mk.injEq] at h
          obtain ⟨rfl, rfl, rfl, rfl⟩ := h
          exact stD_ok C0 hd hres hlen h1 Y hroom (fun H' locs' cells' slots' Y' => kk H' locs' cells' slots' ls Y' hl)
        · cases h
end KSF
