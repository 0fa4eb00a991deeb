section KSB
variable {p : Program} {l : Launch} {e : Env} {R : Room} {s : State} {m : MethodId} {args : Array Value} {below : List Frame} {meth : Method} {c : Code} {H : Heap} {locs : List Loc} {cells slots : Nat} {Q : State → Prop} {pc len : Nat} {ls : Array Slot} {D : va_G} {dA : Nat → ClassId} {b : Nat} {ext adV : Nat → Nat} {sc : Option (Nat × (Nat → Int32))} {mi : Nat} {ri ins : Instr}
theorem stB_ok (C0 : kCtx D dA b ext adV sc p R s m args meth c mi) (hd : decode (kM mi).2.1 pc = .ok (ri, len)) (hres : kres (kOwn mi) ri ins = true) (hlen : klen ri len = true) {lv lv' : List (Nat × Value)} {st st' : List Value} (h : stB (kM mi).2.2.1 ins lv st = some (lv', st')) (hl : kLv b ext ls (kM mi).2.2.1 lv)
    (kk : ∀ ls' : Array Slot, kLv b ext ls' (kM mi).2.2.1 lv' → W p l e R s m args below meth c H locs cells slots Q (F0 m (pc + len) ls' (st'.map (krn b ext)))) : W p l e R s m args below meth c H locs cells slots Q (F0 m pc ls (st.map (krn b ext))) := by
  obtain ⟨hx, hb, hr, hml, hown, hts, hnest, hlocks, hini, hK, hAO, hbs, hSF, hsc, hfr, hlo⟩ := C0
  cases ins
  case iload_n k =>
    have e0 := kres_plain hres rfl
    subst e0
    have e : len = 1 := by simpa [klen] using hlen
    subst e
    simp only [stB] at h
    split at h
    · rename_i x hg
      simp only [Option.some.injEq, Prod.mk.injEq] at h
      obtain ⟨rfl, rfl⟩ := h
      exact lv_iload_n hx hb hd rfl (hl.get hg) (kk ls hl)
    · cases h
  case iload k =>
    have e0 := kres_plain hres rfl
    subst e0
    have e : len = 2 := by simpa [klen] using hlen
    subst e
    simp only [stB] at h
    split at h
    · rename_i x hg
      simp only [Option.some.injEq, Prod.mk.injEq] at h
      obtain ⟨rfl, rfl⟩ := h
      exact lv_iload hx hb hd (hl.get hg) (kk ls hl)
    · cases h
  case lload_n k =>
    have e0 := kres_plain hres rfl
    subst e0
    have e : len = 1 := by simpa [klen] using hlen
    subst e
    simp only [stB] at h
    split at h
    · rename_i x hg
      simp only [Option.some.injEq, Prod.mk.injEq] at h
      obtain ⟨rfl, rfl⟩ := h
      exact lv_lload_n hx hb hd rfl (hl.get hg) (kk ls hl)
    · cases h
  case lload k =>
    have e0 := kres_plain hres rfl
    subst e0
    have e : len = 2 := by simpa [klen] using hlen
    subst e
    simp only [stB] at h
    split at h
    · rename_i x hg
      simp only [Option.some.injEq, Prod.mk.injEq] at h
      obtain ⟨rfl, rfl⟩ := h
      exact lv_lload hx hb hd (hl.get hg) (kk ls hl)
    · cases h
  case aload_n k =>
    have e0 := kres_plain hres rfl
    subst e0
    have e : len = 1 := by simpa [klen] using hlen
    subst e
    simp only [stB] at h
    split at h
    · rename_i x hg
      simp only [Option.some.injEq, Prod.mk.injEq] at h
      obtain ⟨rfl, rfl⟩ := h
      exact lv_aload_n hx hb hd rfl (hl.get hg) (kk ls hl)
    · rename_i hg
      simp only [Option.some.injEq, Prod.mk.injEq] at h
      obtain ⟨rfl, rfl⟩ := h
      exact lv_aload_nN hx hb hd rfl (hl.get hg) (kk ls hl)
    · cases h
  case aload k =>
    have e0 := kres_plain hres rfl
    subst e0
    have e : len = 2 := by simpa [klen] using hlen
    subst e
    simp only [stB] at h
    split at h
    · rename_i x hg
      simp only [Option.some.injEq, Prod.mk.injEq] at h
      obtain ⟨rfl, rfl⟩ := h
      exact lv_aload hx hb hd (hl.get hg) (kk ls hl)
    · rename_i hg
      simp only [Option.some.injEq, Prod.mk.injEq] at h
      obtain ⟨rfl, rfl⟩ := h
      exact lv_aloadN hx hb hd (hl.get hg) (kk ls hl)
    · cases h
  case istore_n k =>
    have e0 := kres_plain hres rfl
    subst e0
    have e : len = 1 := by simpa [klen] using hlen
    subst e
    simp only [stB] at h
    split at h
    · split at h
      · rename_i hk
        simp only [Option.some.injEq, Prod.mk.injEq] at h
        obtain ⟨rfl, rfl⟩ := h
        exact lv_istore_n hx hb hd rfl hl hk rfl (fun ls' hl' => kk ls' (kLv.st1 hl'))
      · cases h
    · cases h
  case istore k =>
    have e0 := kres_plain hres rfl
    subst e0
    have e : len = 2 := by simpa [klen] using hlen
    subst e
    simp only [stB] at h
    split at h
    · split at h
      · rename_i hk
        simp only [Option.some.injEq, Prod.mk.injEq] at h
        obtain ⟨rfl, rfl⟩ := h
        exact lv_istore hx hb hd hl hk rfl (fun ls' hl' => kk ls' (kLv.st1 hl'))
      · cases h
    · cases h
  case lstore_n k =>
    have e0 := kres_plain hres rfl
    subst e0
    have e : len = 1 := by simpa [klen] using hlen
    subst e
    simp only [stB] at h
    split at h
    · split at h
      · rename_i hk
        simp only [Option.some.injEq, Prod.mk.injEq] at h
        obtain ⟨rfl, rfl⟩ := h
        exact lv_lstore_n hx hb hd rfl hl hk rfl (fun ls' hl' => kk ls' (kLv.st2 hl'))
      · cases h
    · cases h
  case lstore k =>
    have e0 := kres_plain hres rfl
    subst e0
    have e : len = 2 := by simpa [klen] using hlen
    subst e
    simp only [stB] at h
    split at h
    · split at h
      · rename_i hk
        simp only [Option.some.injEq, Prod.mk.injEq] at h
        obtain ⟨rfl, rfl⟩ := h
        exact lv_lstore hx hb hd hl hk rfl (fun ls' hl' => kk ls' (kLv.st2 hl'))
      · cases h
    · cases h
  case astore_n k =>
    have e0 := kres_plain hres rfl
    subst e0
    have e : len = 1 := by simpa [klen] using hlen
    subst e
    simp only [stB] at h
    split at h
    · split at h
      · rename_i hk
        simp only [Option.some.injEq, Prod.mk.injEq] at h
        obtain ⟨rfl, rfl⟩ := h
        exact lv_astore_n hx hb hd rfl hl hk rfl (fun ls' hl' => kk ls' (kLv.st1 hl'))
      · cases h
    · split at h
      · rename_i hk
        simp only [Option.some.injEq, Prod.mk.injEq] at h
        obtain ⟨rfl, rfl⟩ := h
        exact lv_astore_nN hx hb hd rfl hl hk rfl (fun ls' hl' => kk ls' (kLv.st1 (v := .null) hl'))
      · cases h
    · cases h
  case astore k =>
    have e0 := kres_plain hres rfl
    subst e0
    have e : len = 2 := by simpa [klen] using hlen
    subst e
    simp only [stB] at h
    split at h
    · split at h
      · rename_i hk
        simp only [Option.some.injEq, Prod.mk.injEq] at h
        obtain ⟨rfl, rfl⟩ := h
        exact lv_astore hx hb hd hl hk rfl (fun ls' hl' => kk ls' (kLv.st1 hl'))
      · cases h
    · split at h
      · rename_i hk
        simp only [Option.some.injEq, Prod.mk.injEq] at h
        obtain ⟨rfl, rfl⟩ := h
        exact lv_astoreN hx hb hd hl hk rfl (fun ls' hl' => kk ls' (kLv.st1 (v := .null) hl'))
      · cases h
    · cases h
  case iinc k i =>
    have e0 := kres_plain hres rfl
    subst e0
    have e : len = 3 := by simpa [klen] using hlen
    subst e
    simp only [stB] at h
    split at h
    · rename_i x hg
      simp only [Option.some.injEq, Prod.mk.injEq] at h
      obtain ⟨rfl, rfl⟩ := h
      obtain ⟨j, hj⟩ := List.getElem?_of_mem (List.mem_map.mpr ⟨_, lget_mem hg, rfl⟩ : ((k, krn b ext (.int x)) : Nat × Value) ∈ lv.map (fun q => (q.1, krn b ext q.2)))
      exact lv_iinc (k := j) hx hb hd hl hj rfl (hl.lt hg) rfl (fun ls' hl' => kk ls' (kLv.st1 hl'))
    · cases h
  all_goals exact absurd h (by simp [stB])
theorem jmp_eq {pc : Nat} {off : Int} {t : Nat} (h : jmp pc off = some t) : (pc : Int) + off = (t : Int) := by
  unfold jmp at h
  split at h
  · rename_i n hn
    cases h
    exact hn
  · cases h
theorem stC_ok (C0 : kCtx D dA b ext adV sc p R s m args meth c mi) (hd : decode (kM mi).2.1 pc = .ok (ri, len)) (hres : kres (kOwn mi) ri ins = true) (hlen : klen ri len = true) {st st' : List Value} {pc' : Nat} (h : stC ins pc len st = some (pc', st'))
    (kk : W p l e R s m args below meth c H locs cells slots Q (F0 m pc' ls (st'.map (krn b ext)))) : W p l e R s m args below meth c H locs cells slots Q (F0 m pc ls (st.map (krn b ext))) := by
  obtain ⟨hx, hb, hr, hml, hown, hts, hnest, hlocks, hini, hK, hAO, hbs, hSF, hsc, hfr, hlo⟩ := C0
  cases ins
  case goto off =>
    have e0 := kres_plain hres rfl
    subst e0
    have e : len = 3 := by simpa [klen] using hlen
    subst e
    simp only [stC] at h
    rw [Option.map_eq_some_iff] at h
    obtain ⟨t, ht, he⟩ := h
    simp only [Prod.mk.injEq] at he
    obtain ⟨rfl, rfl⟩ := he
    exact lv_goto hx hb hd (jmp_eq ht) kk
  case ifCond cc off =>
    have e0 := kres_plain hres rfl
    subst e0
    have e : len = 3 := by simpa [klen] using hlen
    subst e
    simp only [stC] at h
    split at h
    · rename_i t x r hj
      simp only [Option.some.injEq, Prod.mk.injEq] at h
      obtain ⟨rfl, rfl⟩ := h
      have ht := jmp_eq hj
      cases cc
      case eq =>
        refine lv_if_eq hx hb hd ht (fun hP => ?_) (fun hP => ?_)
        · rw [if_pos (by simpa [cnd] using hP)] at kk
          exact kk
        · rw [if_neg (by simpa [cnd] using hP)] at kk
          exact kk
      case ne =>
        refine lv_if_ne hx hb hd ht (fun hP => ?_) (fun hP => ?_)
        · rw [if_pos (by simpa [cnd] using hP)] at kk
          exact kk
        · rw [if_neg (by simpa [cnd] using hP)] at kk
          exact kk
      case lt =>
        refine lv_if_lt hx hb hd ht (fun hP => ?_) (fun hP => ?_)
        · rw [if_pos (by simpa [cnd] using hP)] at kk
          exact kk
        · rw [if_neg (by simpa [cnd] using hP)] at kk
          exact kk
      case ge =>
        refine lv_if_ge hx hb hd ht (fun hP => ?_) (fun hP => ?_)
        · rw [if_pos (by simpa [cnd] using hP)] at kk
          exact kk
        · rw [if_neg (by simpa [cnd] using hP)] at kk
          exact kk
      case gt =>
        refine lv_if_gt hx hb hd ht (fun hP => ?_) (fun hP => ?_)
        · rw [if_pos (by simpa [cnd] using hP)] at kk
          exact kk
        · rw [if_neg (by simpa [cnd] using hP)] at kk
          exact kk
      case le =>
        refine lv_if_le hx hb hd ht (fun hP => ?_) (fun hP => ?_)
        · rw [if_pos (by simpa [cnd] using hP)] at kk
          exact kk
        · rw [if_neg (by simpa [cnd] using hP)] at kk
          exact kk
    · cases h
  case if_icmp cc off =>
    have e0 := kres_plain hres rfl
    subst e0
    have e : len = 3 := by simpa [klen] using hlen
    subst e
    simp only [stC] at h
    split at h
    · rename_i t y x r hj
      simp only [Option.some.injEq, Prod.mk.injEq] at h
      obtain ⟨rfl, rfl⟩ := h
      have ht := jmp_eq hj
      cases cc
      case eq =>
        refine lv_icmp_eq hx hb hd ht (fun hP => ?_) (fun hP => ?_)
        · rw [if_pos (by simpa [cnd] using hP)] at kk
          exact kk
        · rw [if_neg (by simpa [cnd] using hP)] at kk
          exact kk
      case ne =>
        refine lv_icmp_ne hx hb hd ht (fun hP => ?_) (fun hP => ?_)
        · rw [if_pos (by simpa [cnd] using hP)] at kk
          exact kk
        · rw [if_neg (by simpa [cnd] using hP)] at kk
          exact kk
      case lt =>
        refine lv_icmp_lt hx hb hd ht (fun hP => ?_) (fun hP => ?_)
        · rw [if_pos (by simpa [cnd] using hP)] at kk
          exact kk
        · rw [if_neg (by simpa [cnd] using hP)] at kk
          exact kk
      case ge =>
        refine lv_icmp_ge hx hb hd ht (fun hP => ?_) (fun hP => ?_)
        · rw [if_pos (by simpa [cnd] using hP)] at kk
          exact kk
        · rw [if_neg (by simpa [cnd] using hP)] at kk
          exact kk
      case gt =>
        refine lv_icmp_gt hx hb hd ht (fun hP => ?_) (fun hP => ?_)
        · rw [if_pos (by simpa [cnd] using hP)] at kk
          exact kk
        · rw [if_neg (by simpa [cnd] using hP)] at kk
          exact kk
      case le =>
        refine lv_icmp_le hx hb hd ht (fun hP => ?_) (fun hP => ?_)
        · rw [if_pos (by simpa [cnd] using hP)] at kk
          exact kk
        · rw [if_neg (by simpa [cnd] using hP)] at kk
          exact kk
    · cases h
  case ifnull off =>
    have e0 := kres_plain hres rfl
    subst e0
    have e : len = 3 := by simpa [klen] using hlen
    subst e
    simp only [stC] at h
    split at h
    · rename_i t q r hj
      simp only [Option.some.injEq, Prod.mk.injEq] at h
      obtain ⟨rfl, rfl⟩ := h
      exact lv_ifnull hx hb hd kk
    · rename_i t r hj
      simp only [Option.some.injEq, Prod.mk.injEq] at h
      obtain ⟨rfl, rfl⟩ := h
      exact lv_ifnullN hx hb hd (jmp_eq hj) kk
    · cases h
  case ifnonnull off =>
    have e0 := kres_plain hres rfl
    subst e0
    have e : len = 3 := by simpa [klen] using hlen
    subst e
    simp only [stC] at h
    split at h
    · rename_i t q r hj
      simp only [Option.some.injEq, Prod.mk.injEq] at h
      obtain ⟨rfl, rfl⟩ := h
      exact lv_ifnonnull hx hb hd (jmp_eq hj) kk
    · rename_i t r hj
      simp only [Option.some.injEq, Prod.mk.injEq] at h
      obtain ⟨rfl, rfl⟩ := h
      exact lv_ifnonnullN hx hb hd kk
    · cases h
  case tableswitch dflt lo hi offs =>
    have e0 := kres_plain hres rfl
    subst e0
    simp only [stC] at h
    split at h
    · split at h
      · rename_i hc
        rw [Option.map_eq_some_iff] at h
        obtain ⟨t, ht, he⟩ := h
        simp only [Prod.mk.injEq] at he
        obtain ⟨rfl, rfl⟩ := he
        exact lv_tableOut hx hb hd hc (jmp_eq ht) kk
      · rename_i hc
        split at h
        · rename_i o2 ho
          rw [Option.map_eq_some_iff] at h
          obtain ⟨t, ht, he⟩ := h
          simp only [Prod.mk.injEq] at he
          obtain ⟨rfl, rfl⟩ := he
          exact lv_tableIn hx hb hd (fun z => hc (Or.inl z)) (fun z => hc (Or.inr z)) ho (jmp_eq ht) kk
        · cases h
    · cases h
  case lookupswitch dflt ps =>
    have e0 := kres_plain hres rfl
    subst e0
    simp only [stC] at h
    split at h
    · split at h
      · rename_i hc
        rw [Option.map_eq_some_iff] at h
        obtain ⟨t, ht, he⟩ := h
        simp only [Prod.mk.injEq] at he
        obtain ⟨rfl, rfl⟩ := he
        exact lv_lookup hx hb hd hc rfl (jmp_eq ht) kk
      · cases h
    · cases h
  all_goals exact absurd h (by simp [stC])
end KSB
