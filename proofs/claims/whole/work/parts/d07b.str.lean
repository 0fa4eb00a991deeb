section KSAX
variable {p : Program} {l : Launch} {e : Env} {R : Room} {s : State} {m : MethodId} {args : Array Value} {below : List Frame} {meth : Method} {c : Code} {H : Heap} {locs : List Loc} {cells slots : Nat} {Q : State → Prop} {pc len : Nat} {ls : Array Slot} {D : va_G} {dA : Nat → ClassId} {b : Nat} {ext adV : Nat → Nat} {sc : Option (Nat × (Nat → Int32))} {mi : Nat} {ri ins : Instr}
theorem str_lenX (C0 : kCtx D dA b ext adV sc p R s m args meth c mi) {i q : Nat} (hq : 2 ≤ q ∧ q < 13) (hd : decode (kM mi).2.1 pc = .ok (.invokevirtual i, 3)) (hk : khas kKM (kOwn mi) i 7000 = true) (hS : va_S (fun q : Nat => b ≤ q) s.heap H locs) (hsz : ls.size = c.maxLocals) (hcs : cells ≤ R.cells ∧ slots ≤ R.slots) {r : List Value} (hr : (r.map (fun v => v.category)).sum ≤ 8)
    (kk : W p l e R s m args below meth c H locs cells slots Q (F0 m (pc + 3) ls (.int (Int32.ofNat (kSs.getD q []).length) :: r))) : W p l e R s m args below meth c H locs cells slots Q (F0 m pc ls (.ref (ext q) :: r)) := by
  obtain ⟨hx, hb, hr', hml, hown, hts, hnest, hlocks, hini, hKs, hAO, hbs, hSF, hsc, hfr, hlo⟩ := C0
  obtain ⟨w, -, hw⟩ := khas_M hk
  have hJ : jS ext adV (fun q : Nat => b ≤ q) s s.heap := ⟨hSF.2.1, hSF.2.2.1, hSF.2.2.2⟩
  have hl : (Jvm.Cond.methodLink (kOn (kOwn mi)) i yJ_len).before args s = true := hts _ (lwG_of (w := Jvm.Cond.methodLink (kOn (kOwn mi)) i yJ_len) hw rfl)
  obtain ⟨j, rfl⟩ : ∃ j, q = j + 2 := ⟨q - 2, by omega⟩
  have hi : j < 11 := by omega
  refine jrun (v := some (.int (jLn j))) (va_runV (As := []) (rest := r) (b := ext (j + 2)) ⟨hx, hb, hml, hown, hts⟩ (j_len (l := l) (ext := ext) (adV := adV) (A := fun q : Nat => b ≤ q) hi) ⟨callB_of 0 hts (jW_good jw_len) rfl rfl rfl (hts _ (lwG_of (i := 121) (by decide +kernel) rfl)) hl ⟨by decide, by decide, by decide +kernel⟩ ⟨by show 2 + 1 ≤ R.frames; omega, by show 8 + (1 + 11) + 30 * 2 ≤ R.locals; omega⟩, (hts _ (lwG_of (i := 631) (by decide +kernel) rfl)), (hts _ (lwG_of (i := 632) (by decide +kernel) rfl))⟩ ⟨jPc_blind, vk_recv (adK := fun k => ext (k + 2)) (i := j) hJ.1 hi hS, fun U hU hW => ⟨rfl, by rw [hU]; exact (hJ.kept hS.2.1).moved hW.alike⟩⟩ rfl rfl (hsz.trans hml) rfl (lv_room hr) hd ⟨hcs.1, hcs.2⟩) (fun _ _ _ q => q) kk
theorem str_chrX (C0 : kCtx D dA b ext adV sc p R s m args meth c mi) {i q : Nat} {x : Int32} (hq : 2 ≤ q ∧ q < 13) (hin : vin x (kSs.getD q []).length = true) (hd : decode (kM mi).2.1 pc = .ok (.invokevirtual i, 3)) (hk : khas kKM (kOwn mi) i 8000 = true) (hS : va_S (fun q : Nat => b ≤ q) s.heap H locs) (hsz : ls.size = c.maxLocals) (hcs : cells ≤ R.cells ∧ slots ≤ R.slots) {r : List Value} (hr : (r.map (fun v => v.category)).sum ≤ 8)
    (kk : W p l e R s m args below meth c H locs cells slots Q (F0 m (pc + 3) ls (.int (Int32.ofNat ((kSs.getD q []).getD x.toNatClampNeg 0)) :: r))) : W p l e R s m args below meth c H locs cells slots Q (F0 m pc ls (.int x :: .ref (ext q) :: r)) := by
  obtain ⟨hx, hb, hr', hml, hown, hts, hnest, hlocks, hini, hKs, hAO, hbs, hSF, hsc, hfr, hlo⟩ := C0
  obtain ⟨w, -, hw⟩ := khas_M hk
  have hJ : jS ext adV (fun q : Nat => b ≤ q) s s.heap := ⟨hSF.2.1, hSF.2.2.1, hSF.2.2.2⟩
  have hl : (Jvm.Cond.methodLink (kOn (kOwn mi)) i yJ_at).before args s = true := hts _ (lwG_of (w := Jvm.Cond.methodLink (kOn (kOwn mi)) i yJ_at) hw rfl)
  obtain ⟨j, rfl⟩ : ∃ j, q = j + 2 := ⟨q - 2, by omega⟩
  have hi : j < 11 := by omega
  have hvin : vp_in x (kSlen.getD j 0) := by
    rw [(jln hi).1]
    have h9 : ¬ (x < 0 ∨ (kSs.getD (j + 2) []).length ≤ x.toNatClampNeg) := of_decide_eq_true hin
    exact h9
  refine jrun (v := some (.int (jCh j x))) (va_runV (As := [.int x]) (rest := r) (b := ext (j + 2)) ⟨hx, hb, hml, hown, hts⟩ (j_at (l := l) (ext := ext) (adV := adV) (A := fun q : Nat => b ≤ q) hi hvin) ⟨callB_of 1 hts (jW_good jw_at) rfl rfl rfl (hts _ (lwG_of (i := 121) (by decide +kernel) rfl)) hl ⟨by decide, by decide, by decide +kernel⟩ ⟨by show 4 + 1 ≤ R.frames; omega, by show 8 + (2 + 11) + 30 * 4 ≤ R.locals; omega⟩, (hts _ (lwG_of (i := 641) (by decide +kernel) rfl)), (hts _ (lwG_of (i := 642) (by decide +kernel) rfl))⟩ ⟨jPc_blind, vk_recv (adK := fun k => ext (k + 2)) (i := j) hJ.1 hi hS, fun U hU hW => ⟨rfl, by rw [hU]; exact (hJ.kept hS.2.1).moved hW.alike⟩⟩ rfl rfl (hsz.trans hml) rfl (lv_room hr) hd ⟨hcs.1, hcs.2⟩) (fun _ _ _ q => q) kk
end KSAX
