section KSE
variable {p : Program} {l : Launch} {e : Env} {R : Room} {s : State} {m : MethodId} {args : Array Value} {below : List Frame} {meth : Method} {c : Code} {H : Heap} {locs : List Loc} {cells slots : Nat} {Q : State → Prop} {pc len : Nat} {ls : Array Slot} {D : va_G} {dA : Nat → ClassId} {b : Nat} {ext adV : Nat → Nat} {sc : Option (Nat × (Nat → Int32))} {mi : Nat} {ri ins : Instr} {N0 S0 : Nat} {M M' : hp}
theorem sNew_hI {M : hp} {kd len sl k : Nat} : hI (sNew M kd len sl) (64 + hN M) k = 0 := by
  show (if 64 + M.1 = 64 + M.1 then (0 : Int32) else _) = 0
  rw [if_pos rfl]
theorem sNew_hL {M : hp} {kd len sl k : Nat} : hL (sNew M kd len sl) (64 + hN M) k = 0 := by
  show (if 64 + M.1 = 64 + M.1 then (0 : Int64) else _) = 0
  rw [if_pos rfl]
theorem sNew_hR {M : hp} {kd len sl k : Nat} : hR (sNew M kd len sl) (64 + hN M) k = 0 := by
  show (if 64 + M.1 = 64 + M.1 then (0 : Nat) else _) = 0
  rw [if_pos rfl]
theorem sNew_hK {M : hp} {kd len sl : Nat} : hK (sNew M kd len sl) (64 + hN M) = (kd, len) := by
  show (if 64 + M.1 = 64 + M.1 then (kd, len) else _) = _
  rw [if_pos rfl]
theorem knewa_ok (C0 : kCtx D dA b ext adV sc p R s m args meth c mi) {t : ArrayType} {kd : Nat} (hkd : kAt t = some kd) (hd : decode (kM mi).2.1 pc = .ok (.newarray t, 2)) (Y : kInv D dA b ext s N0 S0 M H locs cells slots) {n : Int32} {r : List Value} (hn : ¬ n < 0) (hn6 : n.toNatClampNeg ≤ 60000)
    (hroom : cells + 1 ≤ R.cells ∧ slots + n.toNatClampNeg ≤ R.slots)
    (kk : ∀ H' : Heap, kInv D dA b ext s N0 S0 (sNew M kd n.toNatClampNeg n.toNatClampNeg) H' locs (cells + 1) (slots + n.toNatClampNeg) → W p l e R s m args below meth c H' locs (cells + 1) (slots + n.toNatClampNeg) Q (F0 m (pc + 2) ls (.ref (kad b ext (64 + hN M)) :: r))) : W p l e R s m args below meth c H locs cells slots Q (F0 m pc ls (.int n :: r)) := by
  obtain ⟨hx, hb, hr, hml, hown, hts, hnest, hlocks, hini, hKs, hAO, hbs, hSF, hsc, hfr, hlo⟩ := C0
  have hsz := Y.2.1
  rw [kad_new] at kk
  cases t
  case int =>
    cases hkd
    refine va_newaK (atype := .int) hx hb (hts _ kw_arr.1) rfl hd rfl hn rfl (by show _ * 4 ≤ _; omega) hroom.1 hroom.2 hsz fun H1 cA e1 z1 o1 hAr hNm => ?_
    have hcA : cA = dA 0 := Option.some.inj (hNm.symm.trans ((hKs.2 0 _ rfl).2))
    subst hcA
    refine kk H1 (kInv_new Y ?_ (by rw [z1, hsz]) (fun q hq => o1 q (by rw [← hsz]; exact hq)) hbs)
    rw [kcell_20 (by rw [sNew_hK])]
    show H1[b + hN M]? = some (vp_cell _ _)
    rw [e1, sNew_hK, vp_cell_i]
    congr 2
    funext j
    rw [sNew_hI]
    rfl
  case boolean =>
    cases hkd
    refine va_newaK (atype := .boolean) hx hb (hts _ kw_arr.2.1) rfl hd rfl hn rfl (by show _ * 1 ≤ _; omega) hroom.1 hroom.2 hsz fun H1 cA e1 z1 o1 hAr hNm => ?_
    have hcA : cA = dA 2 := Option.some.inj (hNm.symm.trans ((hKs.2 2 _ rfl).2))
    subst hcA
    refine kk H1 (kInv_new Y ?_ (by rw [z1, hsz]) (fun q hq => o1 q (by rw [← hsz]; exact hq)) hbs)
    rw [kcell_22 (by rw [sNew_hK])]
    show H1[b + hN M]? = some (vp_cell _ _)
    rw [e1, sNew_hK, vp_cell_i]
    congr 2
    funext j
    rw [sNew_hI]
    rfl
  case long =>
    cases hkd
    refine va_newaK (atype := .long) hx hb (hts _ kw_arr.2.2) rfl hd rfl hn rfl (by show _ * 8 ≤ _; omega) hroom.1 hroom.2 hsz fun H1 cA e1 z1 o1 hAr hNm => ?_
    have hcA : cA = dA 1 := Option.some.inj (hNm.symm.trans ((hKs.2 1 _ rfl).2))
    subst hcA
    refine kk H1 (kInv_new Y ?_ (by rw [z1, hsz]) (fun q hq => o1 q (by rw [← hsz]; exact hq)) hbs)
    rw [kcell_21 (by rw [sNew_hK])]
    show H1[b + hN M]? = some (vp_cell _ _)
    rw [e1, sNew_hK, vp_cell_l]
    congr 2
    funext j
    rw [sNew_hL]
    rfl
  all_goals cases hkd
theorem kanew_ok (C0 : kCtx D dA b ext adV sc p R s m args meth c mi) {i kd : Nat} (hkd : kd = 23 ∨ kd = 24) (hi : khas kKC (kOwn mi) i kd = true) (hd : decode (kM mi).2.1 pc = .ok (.anewarray i, 3)) (Y : kInv D dA b ext s N0 S0 M H locs cells slots) {n : Int32} {r : List Value} (hn : ¬ n < 0) (hn6 : n.toNatClampNeg ≤ 60000)
    (hroom : cells + 1 ≤ R.cells ∧ slots + n.toNatClampNeg ≤ R.slots)
    (kk : ∀ H' : Heap, kInv D dA b ext s N0 S0 (sNew M kd n.toNatClampNeg n.toNatClampNeg) H' locs (cells + 1) (slots + n.toNatClampNeg) → W p l e R s m args below meth c H' locs (cells + 1) (slots + n.toNatClampNeg) Q (F0 m (pc + 3) ls (.ref (kad b ext (64 + hN M)) :: r))) : W p l e R s m args below meth c H locs cells slots Q (F0 m pc ls (.int n :: r)) := by
  obtain ⟨hx, hb, hr, hml, hown, hts, hnest, hlocks, hini, hKs, hAO, hbs, hSF, hsc, hfr, hlo⟩ := C0
  have hsz := Y.2.1
  rw [kad_new] at kk
  have key : ∀ (t0 : Nat) (C : String), (ktys dA)[t0]? = some (dA t0, .object C) → va_AO C s → (Jvm.Cond.classLink (kOn (kOwn mi)) i C).before args s = true → kcell dA b ext (sNew M kd n.toNatClampNeg n.toNatClampNeg) (64 + hN M) = .inl (dA t0, n.toNatClampNeg, .inr (.inr (.inr (.inr (fun j => krq b ext (hR (sNew M kd n.toNatClampNeg n.toNatClampNeg) (64 + hN M) j)))))) → W p l e R s m args below meth c H locs cells slots Q (F0 m pc ls (.int n :: r)) := by
    intro t0 C ht hover hcl hc
    refine W.anew hx hb hown hcl (va_AO.use hover) rfl hd rfl hn (by omega) hroom.1 hroom.2 fun cA kA comp f1 f2 f3 f4 => ?_
    obtain ⟨kA', comp', g1, g2, g3, g4⟩ := (hKs.2 t0 _ ht).2
    have hcA : cA = dA t0 := Option.some.inj (f1.symm.trans g4)
    generalize hH1 : H.push ({ cls := cA, slots := Array.replicate n.toNatClampNeg .null, vm := .none } : Cell) = H1
    have z1 : H1.size = H.size + 1 := by rw [← hH1, Array.size_push]
    have e1 : H1[H.size]? = some (arrV cA n.toNatClampNeg (fun _ => .null)) := by rw [← hH1, Array.getElem?_push_size, ← arrV_new]
    have o1 : ∀ q : Nat, q < H.size → H1[q]? = H[q]? := fun q hq => by rw [← hH1, Array.getElem?_push, if_neg (Nat.ne_of_lt hq)]
    rw [show H.size = b + hN M from hsz]
    rw [show H.size = b + hN M from hsz] at e1
    refine kk H1 (kInv_new Y ?_ z1 o1 hbs)
    rw [hc]
    show H1[b + hN M]? = some (vp_cell _ _)
    rw [e1, vp_cell_q, hcA]
    congr 2
    funext j
    rw [sNew_hR]
    rfl
  have hcl := hts _ (khas_C hi)
  rcases hkd with rfl | rfl
  · refine key 3 RX7 rfl hAO.1 hcl ?_
    rw [kcell_23 (by rw [sNew_hK]), sNew_hK]
  · refine key 4 RX0 rfl hAO.2 hcl ?_
    rw [kcell_24 (by rw [sNew_hK]), sNew_hK]
theorem knew_ok (C0 : kCtx D dA b ext adV sc p R s m args meth c mi) {i ci : Nat} (hci : ci < 10) (hi : khas kKC (kOwn mi) i ci = true) (hd : decode (kM mi).2.1 pc = .ok (.new i, 3)) (Y : kInv D dA b ext s N0 S0 M H locs cells slots) {r : List Value}
    (hroom : cells + 1 ≤ R.cells ∧ slots + kNF ci ≤ R.slots)
    (kk : ∀ H' : Heap, kInv D dA b ext s N0 S0 (sNew M ci 0 (kNF ci)) H' locs (cells + 1) (slots + kNF ci) → W p l e R s m args below meth c H' locs (cells + 1) (slots + kNF ci) Q (F0 m (pc + 3) ls (.ref (kad b ext (64 + hN M)) :: r))) : W p l e R s m args below meth c H locs cells slots Q (F0 m pc ls r) := by
  obtain ⟨hx, hb, hr, hml, hown, hts, hnest, hlocks, hini, hKs, hAO, hbs, hSF, hsc, hfr, hlo⟩ := C0
  have hsz := Y.2.1
  rw [kad_new] at kk
  have hcl := hts _ (khas_C hi)
  rw [if_neg (by omega), if_neg (by omega)] at hcl
  obtain ⟨w1, w2⟩ := kcls_ins ci hci
  have hKn := hKs.1 ci _ (kcls_at hci)
  have hNF := kcls_NF ci hci
  refine W.newcK hx hb hown hcl (hts _ w1) (hts _ w2) rfl hd hroom.1 hroom.2 hKn.2.1 hsz fun H1 kC hkC e1 z1 o1 => ?_
  refine kk H1 (kInv_new Y ?_ (by rw [z1, hsz]) (fun q hq => o1 q (by rw [← hsz]; exact hq)) hbs)
  rw [kcell_obj (ci := ci) (by rw [sNew_hK]) hci]
  refine ⟨_, kcls_at hci, (u_born (kft ci) hts (kcls_ws ci hci) hKn hkC e1 (fun k hk => (kcls_ok ci hci k (by rw [hNF] at hk; exact hk)).2.2.1)).to fun k hk => ?_⟩
  rw [hNF] at hk
  show defaultValue (kft ci k) = vp_V _ k
  unfold vp_V
  rw [List.getD_eq_getElem?_getD, List.getElem?_map, kfs_at hk]
  have ht := (kcls_ok ci hci k hk).2.2.2.2
  show defaultValue (kft ci k) = krn b ext (kfv _ _ ci k)
  unfold kfv
  unfold ktyok at ht
  split at ht
  · rename_i h0
    rw [h0]
    simp only [Bool.or_eq_true, decide_eq_true_eq] at ht
    rw [sNew_hI]
    rcases ht with ht | ht <;> rw [ht] <;> rfl
  · rename_i h0
    rw [h0]
    rw [of_decide_eq_true ht, sNew_hL]
    rfl
  · rename_i h0
    rw [h0, sNew_hR]
    split at ht
    · rename_i h1; rw [h1]; rfl
    · rename_i h1; rw [h1]; rfl
    · cases ht
  · cases ht
end KSE
