theorem stU_dflt {sc : Option (Nat × (Nat → Int32))} {ini : Bool} {o nL : Nat} {ins : Instr} {pc len : Nat} {lv lv' : List (Nat × Value)} {st st' : List Value} {M M' : hp} {Ps : List Prop}
    (h : (match stA ins st with
      | some st' => some ([], lv, st', M)
      | none => match stB nL ins lv st with
        | some (lv', st') => some ([], lv', st', M)
        | none => none) = some (Ps, lv', st', M')) : stp sc ini o nL ins pc len lv st M = some (pc + len, lv', st', M') := by
  unfold stp
  split at h
  · rename_i s1 h1
    simp only [Option.some.injEq, Prod.mk.injEq] at h
    obtain ⟨-, rfl, rfl, rfl⟩ := h
    rw [h1]
  · rename_i h0
    split at h
    · rename_i l1 s1 h1
      simp only [Option.some.injEq, Prod.mk.injEq] at h
      obtain ⟨-, rfl, rfl, rfl⟩ := h
      simp only [h0, h1]
    · cases h
theorem isRv_cat {v : Value} (h : isRv v) : (∃ q, v = .ref q) ∨ v = .null := by
  cases v <;> first | exact Or.inl ⟨_, rfl⟩ | exact Or.inr rfl | exact absurd h id
set_option maxHeartbeats 2000000 in
theorem stU_ok {sc : Option (Nat × (Nat → Int32))} {ini : Bool} {o nL : Nat} {ins : Instr} {pc len : Nat} {lv lv' : List (Nat × Value)} {st st' : List Value} {M M' : hp} {Ps : List Prop} (h : stU sc ini o nL ins lv st M = some (Ps, lv', st', M')) (hP : allP Ps) : stp sc ini o nL ins pc len lv st M = some (pc + len, lv', st', M') ∧ kcall ins = none ∧ kisret ins = false := by
  cases ins
  case ireturn => simp [stU, stA, stB] at h
  case lreturn => simp [stU, stA, stB] at h
  case areturn => simp [stU, stA, stB] at h
  case return_ => simp [stU, stA, stB] at h
  case aload_n k =>
    simp only [stU] at h
    split at h
    · rename_i v hg
      simp only [Option.some.injEq, Prod.mk.injEq] at h
      obtain ⟨rfl, rfl, rfl, rfl⟩ := h
      refine ⟨?_, rfl, rfl⟩
      rcases isRv_cat hP.1 with ⟨q, rfl⟩ | rfl <;> simp [stp, stA, stB, hg]
    · cases h
  case aload k =>
    simp only [stU] at h
    split at h
    · rename_i v hg
      simp only [Option.some.injEq, Prod.mk.injEq] at h
      obtain ⟨rfl, rfl, rfl, rfl⟩ := h
      refine ⟨?_, rfl, rfl⟩
      rcases isRv_cat hP.1 with ⟨q, rfl⟩ | rfl <;> simp [stp, stA, stB, hg]
    · cases h
  case astore_n k =>
    simp only [stU] at h
    split at h
    · split at h
      · rename_i hc
        simp only [Option.some.injEq, Prod.mk.injEq] at h
        obtain ⟨rfl, rfl, rfl, rfl⟩ := h
        refine ⟨?_, rfl, rfl⟩
        rcases isRv_cat hP.1 with ⟨q, rfl⟩ | rfl <;> simp [stp, stA, stB, hc.1]
      · cases h
    · cases h
  case astore k =>
    simp only [stU] at h
    split at h
    · split at h
      · rename_i hc
        simp only [Option.some.injEq, Prod.mk.injEq] at h
        obtain ⟨rfl, rfl, rfl, rfl⟩ := h
        refine ⟨?_, rfl, rfl⟩
        rcases isRv_cat hP.1 with ⟨q, rfl⟩ | rfl <;> simp [stp, stA, stB, hc.1]
      · cases h
    · cases h
  case idiv =>
    simp only [stU] at h
    split at h
    · simp only [Option.some.injEq, Prod.mk.injEq] at h
      obtain ⟨rfl, rfl, rfl, rfl⟩ := h
      exact ⟨by simp [stp, stA, hP.1], rfl, rfl⟩
    · cases h
  case irem =>
    simp only [stU] at h
    split at h
    · simp only [Option.some.injEq, Prod.mk.injEq] at h
      obtain ⟨rfl, rfl, rfl, rfl⟩ := h
      exact ⟨by simp [stp, stA, hP.1], rfl, rfl⟩
    · cases h
  case ldiv =>
    simp only [stU] at h
    split at h
    · simp only [Option.some.injEq, Prod.mk.injEq] at h
      obtain ⟨rfl, rfl, rfl, rfl⟩ := h
      exact ⟨by simp [stp, stA, hP.1], rfl, rfl⟩
    · cases h
  case lrem =>
    simp only [stU] at h
    split at h
    · simp only [Option.some.injEq, Prod.mk.injEq] at h
      obtain ⟨rfl, rfl, rfl, rfl⟩ := h
      exact ⟨by simp [stp, stA, hP.1], rfl, rfl⟩
    · cases h
  case getfield n =>
    simp only [stU] at h
    split at h
    · rename_i hk
      split at h
      · split at h
        · rename_i hty
          simp only [Option.some.injEq, Prod.mk.injEq] at h
          obtain ⟨rfl, rfl, rfl, rfl⟩ := h
          exact ⟨by simp [stp, stA, stB, stC, stD, hP.1, hk, kfv, hty], rfl, rfl⟩
        · rename_i hty
          simp only [Option.some.injEq, Prod.mk.injEq] at h
          obtain ⟨rfl, rfl, rfl, rfl⟩ := h
          exact ⟨by simp [stp, stA, stB, stC, stD, hP.1, hk, kfv, hty], rfl, rfl⟩
        · rename_i h0 h1
          simp only [Option.some.injEq, Prod.mk.injEq] at h
          obtain ⟨rfl, rfl, rfl, rfl⟩ := h
          refine ⟨?_, rfl, rfl⟩
          have e : ∀ a, ¬ hR M a (n % 100) = 0 → kfv M a (n / 100) (n % 100) = .ref (hR M a (n % 100)) := by
            intro a ha
            unfold kfv
            split
            · rename_i z; exact absurd z (by simpa using h0)
            · rename_i z; exact absurd z (by simpa using h1)
            · unfold krv; rw [if_neg ha]
          simp [stp, stA, stB, stC, stD, hP.1, hk, e _ hP.2.1]
      · cases h
    · cases h
  case putfield n =>
    simp only [stU] at h
    split at h
    · rename_i hk
      split at h
      · rename_i x a r
        split at h
        · rename_i hty
          simp only [Option.some.injEq, Prod.mk.injEq] at h
          obtain ⟨rfl, rfl, rfl, rfl⟩ := h
          refine ⟨?_, rfl, rfl⟩
          have hci := kNF_lt hk.2
          have ht := (kcls_ok (n / 100) hci (n % 100) hk.2).2.2.2.2
          rw [hty] at ht
          have hf : narrow (kft (n / 100) (n % 100)) (.int x) = .int x ∧ fits (kft (n / 100) (n % 100)) (.int x) = true := by
            have h2 := hP.2
            unfold kfit at h2
            simp only [ktyok, Bool.or_eq_true, decide_eq_true_eq] at ht
            rcases ht with ht | ht
            · rw [ht]; exact ⟨rfl, rfl⟩
            · rw [ht] at h2 ⊢
              rcases h2.1 with rfl | rfl <;> exact ⟨rfl, rfl⟩
          simp only [stp, stA, stB, stC, stD]
          rw [if_pos hk, if_pos ⟨hP.1, hty, hf.1, hf.2⟩]
        · cases h
      · split at h
        · rename_i hty
          simp only [Option.some.injEq, Prod.mk.injEq] at h
          obtain ⟨rfl, rfl, rfl, rfl⟩ := h
          refine ⟨?_, rfl, rfl⟩
          simp only [stp, stA, stB, stC, stD]
          rw [if_pos hk, if_pos ⟨hP.1, hty⟩]
        · cases h
      · split at h
        · rename_i hty
          simp only [Option.some.injEq, Prod.mk.injEq] at h
          obtain ⟨rfl, rfl, rfl, rfl⟩ := h
          refine ⟨?_, rfl, rfl⟩
          simp only [stp, stA, stB, stC, stD]
          rw [if_pos hk, if_pos ⟨hP.1, hty, hP.2.1⟩]
        · cases h
      · cases h
    · cases h
  case arraylength =>
    simp only [stU] at h
    split at h
    · split at h
      · simp only [Option.some.injEq, Prod.mk.injEq] at h
        obtain ⟨rfl, rfl, rfl, rfl⟩ := h
        exact ⟨by simp [stp, stA, stB, stC, stD, hP.1, hP.2.1.1, hP.2.1.2], rfl, rfl⟩
      · simp only [Option.some.injEq, Prod.mk.injEq] at h
        obtain ⟨rfl, rfl, rfl, rfl⟩ := h
        exact ⟨by simp [stp, stA, stB, stC, stD, hP.1], rfl, rfl⟩
    · cases h
  case iaload =>
    simp only [stU] at h
    split at h
    · split at h
      · simp only [Option.some.injEq, Prod.mk.injEq] at h
        obtain ⟨rfl, rfl, rfl, rfl⟩ := h
        exact ⟨by simp [stp, stA, stB, stC, stD, hP.1, hP.2.1, hP.2.2.1], rfl, rfl⟩
      · simp only [Option.some.injEq, Prod.mk.injEq] at h
        obtain ⟨rfl, rfl, rfl, rfl⟩ := h
        exact ⟨by simp [stp, stA, stB, stC, stD, hP.1, hP.2.1], rfl, rfl⟩
    · cases h
  case baload =>
    simp only [stU] at h
    split at h
    · simp only [Option.some.injEq, Prod.mk.injEq] at h
      obtain ⟨rfl, rfl, rfl, rfl⟩ := h
      exact ⟨by simp [stp, stA, stB, stC, stD, hP.1, hP.2.1], rfl, rfl⟩
    · cases h
  case laload =>
    simp only [stU] at h
    split at h
    · simp only [Option.some.injEq, Prod.mk.injEq] at h
      obtain ⟨rfl, rfl, rfl, rfl⟩ := h
      exact ⟨by simp [stp, stA, stB, stC, stD, hP.1, hP.2.1], rfl, rfl⟩
    · cases h
  case aaload =>
    simp only [stU] at h
    split at h
    · simp only [Option.some.injEq, Prod.mk.injEq] at h
      obtain ⟨rfl, rfl, rfl, rfl⟩ := h
      exact ⟨by simp [stp, stA, stB, stC, stD, hP.1, hP.2.1], rfl, rfl⟩
    · cases h
  case iastore =>
    simp only [stU] at h
    split at h
    · simp only [Option.some.injEq, Prod.mk.injEq] at h
      obtain ⟨rfl, rfl, rfl, rfl⟩ := h
      exact ⟨by simp [stp, stA, stB, stC, stD, hP.1, hP.2.1], rfl, rfl⟩
    · cases h
  case bastore =>
    simp only [stU] at h
    split at h
    · simp only [Option.some.injEq, Prod.mk.injEq] at h
      obtain ⟨rfl, rfl, rfl, rfl⟩ := h
      exact ⟨by simp [stp, stA, stB, stC, stD, hP.1, hP.2.1], rfl, rfl⟩
    · cases h
  case lastore =>
    simp only [stU] at h
    split at h
    · simp only [Option.some.injEq, Prod.mk.injEq] at h
      obtain ⟨rfl, rfl, rfl, rfl⟩ := h
      exact ⟨by simp [stp, stA, stB, stC, stD, hP.1, hP.2.1], rfl, rfl⟩
    · cases h
  case aastore =>
    simp only [stU] at h
    split at h
    · simp only [Option.some.injEq, Prod.mk.injEq] at h
      obtain ⟨rfl, rfl, rfl, rfl⟩ := h
      refine ⟨?_, rfl, rfl⟩
      simp only [stp, stA, stB, stC, stD]
      rw [if_pos ⟨hP.1, hP.2.1⟩]
    · simp only [Option.some.injEq, Prod.mk.injEq] at h
      obtain ⟨rfl, rfl, rfl, rfl⟩ := h
      refine ⟨?_, rfl, rfl⟩
      simp only [stp, stA, stB, stC, stD]
      rw [if_pos ⟨hP.1, hP.2.1⟩]
    · cases h
  case newarray t =>
    simp only [stU] at h
    split at h
    · split at h
      · rename_i kd hkd
        simp only [Option.some.injEq, Prod.mk.injEq] at h
        obtain ⟨rfl, rfl, rfl, rfl⟩ := h
        refine ⟨?_, rfl, rfl⟩
        simp only [stp, stA, stB, stC, stD, hkd]
        rw [if_pos hP.1]
      · cases h
    · cases h
  case anewarray kd =>
    simp only [stU] at h
    split at h
    · split at h
      · rename_i hkd
        simp only [Option.some.injEq, Prod.mk.injEq] at h
        obtain ⟨rfl, rfl, rfl, rfl⟩ := h
        refine ⟨?_, rfl, rfl⟩
        simp only [stp, stA, stB, stC, stD]
        rw [if_pos ⟨hkd, hP.1.1, hP.1.2⟩]
      · cases h
    · cases h
  case new ci =>
    simp only [stU] at h
    split at h
    · rename_i hc
      simp only [Option.some.injEq, Prod.mk.injEq] at h
      obtain ⟨rfl, rfl, rfl, rfl⟩ := h
      exact ⟨by simp [stp, stA, stB, stC, stD, hc], rfl, rfl⟩
    · cases h
  case invokestatic k =>
    simp only [stU] at h
    split at h
    · split at h
      · rename_i hk
        subst hk
        simp only [Option.some.injEq, Prod.mk.injEq] at h
        obtain ⟨rfl, rfl, rfl, rfl⟩ := h
        exact ⟨by simp [stp, stA, hP.1], rfl, rfl⟩
      · split at h
        · rename_i hk
          subst hk
          simp only [Option.some.injEq, Prod.mk.injEq] at h
          obtain ⟨rfl, rfl, rfl, rfl⟩ := h
          exact ⟨by simp [stp, stA, hP.1], rfl, rfl⟩
        · cases h
    · split at h
      · rename_i hk
        subst hk
        simp only [Option.some.injEq, Prod.mk.injEq] at h
        obtain ⟨rfl, rfl, rfl, rfl⟩ := h
        exact ⟨by simp [stp, stA, hP.1], rfl, rfl⟩
      · split at h
        · rename_i hk
          subst hk
          simp only [Option.some.injEq, Prod.mk.injEq] at h
          obtain ⟨rfl, rfl, rfl, rfl⟩ := h
          exact ⟨by simp [stp, stA, hP.1], rfl, rfl⟩
        · cases h
    · cases h
  case invokespecial k =>
    simp only [stU] at h
    split at h
    · split at h
      · rename_i hk
        subst hk
        simp only [Option.some.injEq, Prod.mk.injEq] at h
        obtain ⟨rfl, rfl, rfl, rfl⟩ := h
        exact ⟨by simp [stp, stA, hP.1], rfl, rfl⟩
      · cases h
    · cases h
  case invokevirtual k =>
    simp only [stU] at h
    split at h
    · split at h
      · rename_i hk
        subst hk
        simp only [Option.some.injEq, Prod.mk.injEq] at h
        obtain ⟨rfl, rfl, rfl, rfl⟩ := h
        exact ⟨by simp [stp, stA, hP.1, hP.2.1, hP.2.2.1], rfl, rfl⟩
      · cases h
    · split at h
      · rename_i hk
        subst hk
        simp only [Option.some.injEq, Prod.mk.injEq] at h
        obtain ⟨rfl, rfl, rfl, rfl⟩ := h
        refine ⟨?_, rfl, rfl⟩
        simp only [stp, stA]
        rw [if_pos ⟨trivial, hP.1, hP.2.1, hP.2.2.1, hP.2.2.2.1⟩]
      · cases h
    · cases h
  all_goals (simp only [stU] at h; exact ⟨stU_dflt h, rfl, rfl⟩)
def kmask (mi pc : Nat) : Option Nat := match kat mi pc with
  | some (_, _, k) => k
  | none => none
theorem knx_mask (mi pc : Nat) (lv : List (Nat × Value)) : knx mi pc lv = kkeep (kmask mi pc) lv := by
  unfold knx kmask
  cases h : kat mi pc with
  | none => rfl
  | some q =>
    obtain ⟨a, b, c⟩ := q
    rfl
/-- the code has these instructions here, no locals are dropped between them -/
def kchunk (mi : Nat) : Nat → List (Instr × Nat) → Option Nat
  | pc, [] => some pc
  | pc, (i, len) :: t => match kat mi pc with
    | some (i', len', _) => if i = i' ∧ len = len' ∧ (t = [] ∨ kmask mi (pc + len) = none) then kchunk mi (pc + len) t else none
    | none => none
theorem kchunk_go {sc : Option (Nat × (Nat → Int32))} {d mi : Nat} {Q : Option Value → hp → Prop} : ∀ (L : List (Instr × Nat)) (pc pc' : Nat) (lv lv' : List (Nat × Value)) (st st' : List Value) (M M' : hp) (Ps : List Prop), L ≠ [] → kchunk mi pc L = some pc' → blkU sc (kIni mi) (kOwn mi) (kM mi).2.2.1 L lv st M = some (Ps, lv', st', M') → allP Ps → Wp sc d mi pc lv st M Q = Wp sc d mi pc' (knx mi pc' lv') st' M' Q := by
  intro L
  induction L with
  | nil => intro pc pc' lv lv' st st' M M' Ps h; exact absurd rfl h
  | cons x t ih =>
    intro pc pc' lv lv' st st' M M' Ps _ hc hU hP
    obtain ⟨i, len⟩ := x
    simp only [kchunk] at hc
    split at hc
    · rename_i i' len' k hkat
      split at hc
      · rename_i hh
        obtain ⟨rfl, rfl, hmid⟩ := hh
        simp only [blkU] at hU
        split at hU
        · rename_i P lv1 st1 M1 h1
          split at hU
          · rename_i P2 lv2 st2 M2 h2
            simp only [Option.some.injEq, Prod.mk.injEq] at hU
            obtain ⟨rfl, rfl, rfl, rfl⟩ := hU
            obtain ⟨hP1, hP2⟩ := allP_app hP
            obtain ⟨hs, hk, hr⟩ := stU_ok (pc := pc) (len := len) h1 hP1
            rw [Wp_step hkat hk hr hs]
            by_cases ht : t = []
            · subst ht
              simp only [kchunk, Option.some.injEq] at hc
              simp only [blkU, Option.some.injEq, Prod.mk.injEq] at h2
              obtain ⟨-, rfl, rfl, rfl⟩ := h2
              rw [hc]
            · have hm := hmid.resolve_left ht
              rw [knx_mask mi (pc + len), hm]
              exact ih _ _ _ _ _ _ _ _ _ ht hc h2 hP2
          · cases hU
        · cases hU
      · cases hc
    · cases hc
def kbc (mi pc : Nat) (L : List (Instr × Nat)) (ini : Bool) (o nL pc' : Nat) (mask : Option Nat) : Bool := decide (kchunk mi pc L = some pc') && decide (L ≠ []) && decide (kIni mi = ini) && decide (kOwn mi = o) && decide ((kM mi).2.2.1 = nL) && decide (kmask mi pc' = mask)
theorem Wp_blk {sc : Option (Nat × (Nat → Int32))} {d mi pc pc' o nL : Nat} {ini : Bool} {mask : Option Nat} {L : List (Instr × Nat)} {lv lv' lv2 : List (Nat × Value)} {st st' : List Value} {M M' : hp} {Ps : List Prop} {Q : Option Value → hp → Prop} (hb : kbc mi pc L ini o nL pc' mask = true) (hU : blkU sc ini o nL L lv st M = some (Ps, lv', st', M')) (hk : kkeep mask lv' = lv2) (hP : allP Ps) : Wp sc d mi pc lv st M Q = Wp sc d mi pc' lv2 st' M' Q := by
  simp only [kbc, Bool.and_eq_true, decide_eq_true_eq] at hb
  obtain ⟨⟨⟨⟨⟨h1, h2⟩, rfl⟩, rfl⟩, rfl⟩, rfl⟩ := hb
  rw [kchunk_go L pc pc' lv lv' st st' M M' Ps h2 h1 hU hP, knx_mask, hk]
def kbg (mi pc t : Nat) (mask : Option Nat) : Bool := match kat mi pc with
  | some (.goto off, _, _) => decide (jmp pc off = some t) && decide (kmask mi t = mask)
  | _ => false
theorem Wp_goto {sc : Option (Nat × (Nat → Int32))} {d mi pc t : Nat} {mask : Option Nat} {lv lv2 : List (Nat × Value)} {st : List Value} {M : hp} {Q : Option Value → hp → Prop} (hb : kbg mi pc t mask = true) (hk : kkeep mask lv = lv2) : Wp sc d mi pc lv st M Q = Wp sc d mi t lv2 st M Q := by
  unfold kbg at hb
  split at hb
  · rename_i off len k hkat
    simp only [Bool.and_eq_true, decide_eq_true_eq] at hb
    obtain ⟨h1, rfl⟩ := hb
    rw [Wp_step (pc' := t) (lv' := lv) (st' := st) (M' := M) hkat rfl rfl (by simp [stp, stA, stB, stC, h1]), knx_mask, hk]
  · cases hb
def kbi (mi pc : Nat) (c : Jvm.ClassFile.Cond) (t u : Nat) (m1 m2 : Option Nat) : Bool := match kat mi pc with
  | some (.ifCond c' off, len, _) => decide (c = c') && decide (jmp pc off = some t) && decide (pc + len = u) && decide (kmask mi t = m1) && decide (kmask mi u = m2)
  | _ => false
def kbj (mi pc : Nat) (c : Jvm.ClassFile.Cond) (t u : Nat) (m1 m2 : Option Nat) : Bool := match kat mi pc with
  | some (.if_icmp c' off, len, _) => decide (c = c') && decide (jmp pc off = some t) && decide (pc + len = u) && decide (kmask mi t = m1) && decide (kmask mi u = m2)
  | _ => false
theorem Wp_if {sc : Option (Nat × (Nat → Int32))} {d mi pc t u : Nat} {c : Jvm.ClassFile.Cond} {m1 m2 : Option Nat} {lv lv1 lv2 : List (Nat × Value)} {x : Int32} {st : List Value} {M : hp} {Q : Option Value → hp → Prop} {P : Prop} [Decidable P] (hb : kbi mi pc c t u m1 m2 = true) (hP : (cnd c x 0 = true) = P) (h1 : kkeep m1 lv = lv1) (h2 : kkeep m2 lv = lv2) :
    Wp sc d mi pc lv (.int x :: st) M Q = if P then Wp sc d mi t lv1 st M Q else Wp sc d mi u lv2 st M Q := by
  unfold kbi at hb
  split at hb
  · rename_i c' off len k hkat
    simp only [Bool.and_eq_true, decide_eq_true_eq] at hb
    obtain ⟨⟨⟨⟨rfl, g1⟩, rfl⟩, rfl⟩, rfl⟩ := hb
    rw [Wp_step (pc' := if cnd c x 0 = true then t else pc + len) (lv' := lv) (st' := st) (M' := M) hkat rfl rfl (by simp [stp, stA, stB, stC, g1])]
    by_cases q : P
    · rw [if_pos q, if_pos (by rw [hP]; exact q), knx_mask, h1]
    · rw [if_neg q, if_neg (by rw [hP]; exact q), knx_mask, h2]
  · cases hb
theorem Wp_icmp {sc : Option (Nat × (Nat → Int32))} {d mi pc t u : Nat} {c : Jvm.ClassFile.Cond} {m1 m2 : Option Nat} {lv lv1 lv2 : List (Nat × Value)} {x y : Int32} {st : List Value} {M : hp} {Q : Option Value → hp → Prop} {P : Prop} [Decidable P] (hb : kbj mi pc c t u m1 m2 = true) (hP : (cnd c x y = true) = P) (h1 : kkeep m1 lv = lv1) (h2 : kkeep m2 lv = lv2) :
    Wp sc d mi pc lv (.int y :: .int x :: st) M Q = if P then Wp sc d mi t lv1 st M Q else Wp sc d mi u lv2 st M Q := by
  unfold kbj at hb
  split at hb
  · rename_i c' off len k hkat
    simp only [Bool.and_eq_true, decide_eq_true_eq] at hb
    obtain ⟨⟨⟨⟨rfl, g1⟩, rfl⟩, rfl⟩, rfl⟩ := hb
    rw [Wp_step (pc' := if cnd c x y = true then t else pc + len) (lv' := lv) (st' := st) (M' := M) hkat rfl rfl (by simp [stp, stA, stB, stC, g1])]
    by_cases q : P
    · rw [if_pos q, if_pos (by rw [hP]; exact q), knx_mask, h1]
    · rw [if_neg q, if_neg (by rw [hP]; exact q), knx_mask, h2]
  · cases hb
theorem cnd_eq (x y : Int32) : (cnd .eq x y = true) = (x = y) := by simp [cnd]
theorem cnd_ne (x y : Int32) : (cnd .ne x y = true) = (¬ x = y) := by simp [cnd]
theorem cnd_lt (x y : Int32) : (cnd .lt x y = true) = (x < y) := by simp [cnd]
theorem cnd_ge (x y : Int32) : (cnd .ge x y = true) = (y ≤ x) := by simp [cnd]
theorem cnd_gt (x y : Int32) : (cnd .gt x y = true) = (y < x) := by simp [cnd]
theorem cnd_le (x y : Int32) : (cnd .le x y = true) = (x ≤ y) := by simp [cnd]
/-- null or not -/
def kbn (mi pc t u : Nat) (m1 m2 : Option Nat) : Bool := match kat mi pc with
  | some (.ifnull off, len, _) => decide (jmp pc off = some t) && decide (pc + len = u) && decide (kmask mi t = m1) && decide (kmask mi u = m2)
  | some (.ifnonnull off, len, _) => decide (jmp pc off = some u) && decide (pc + len = t) && decide (kmask mi t = m1) && decide (kmask mi u = m2)
  | _ => false
theorem Wp_null {sc : Option (Nat × (Nat → Int32))} {d mi pc t u : Nat} {m1 m2 : Option Nat} {lv lv1 : List (Nat × Value)} {st : List Value} {M : hp} {Q : Option Value → hp → Prop} (hb : kbn mi pc t u m1 m2 = true) (h1 : kkeep m1 lv = lv1) :
    Wp sc d mi pc lv (.null :: st) M Q = Wp sc d mi t lv1 st M Q := by
  unfold kbn at hb
  split at hb
  · rename_i off len k hkat
    simp only [Bool.and_eq_true, decide_eq_true_eq] at hb
    obtain ⟨⟨⟨g1, rfl⟩, rfl⟩, rfl⟩ := hb
    rw [Wp_step (pc' := t) (lv' := lv) (st' := st) (M' := M) hkat rfl rfl (by simp [stp, stA, stB, stC, g1]), knx_mask, h1]
  · rename_i off len k hkat
    simp only [Bool.and_eq_true, decide_eq_true_eq] at hb
    obtain ⟨⟨⟨g1, rfl⟩, rfl⟩, rfl⟩ := hb
    rw [Wp_step (pc' := pc + len) (lv' := lv) (st' := st) (M' := M) hkat rfl rfl (by simp [stp, stA, stB, stC, g1]), knx_mask, h1]
  · cases hb
theorem Wp_nnull {sc : Option (Nat × (Nat → Int32))} {d mi pc t u : Nat} {m1 m2 : Option Nat} {lv lv2 : List (Nat × Value)} {x : Nat} {st : List Value} {M : hp} {Q : Option Value → hp → Prop} (hb : kbn mi pc t u m1 m2 = true) (h2 : kkeep m2 lv = lv2) :
    Wp sc d mi pc lv (.ref x :: st) M Q = Wp sc d mi u lv2 st M Q := by
  unfold kbn at hb
  split at hb
  · rename_i off len k hkat
    simp only [Bool.and_eq_true, decide_eq_true_eq] at hb
    obtain ⟨⟨⟨g1, rfl⟩, rfl⟩, rfl⟩ := hb
    rw [Wp_step (pc' := pc + len) (lv' := lv) (st' := st) (M' := M) hkat rfl rfl (by simp [stp, stA, stB, stC, g1]), knx_mask, h2]
  · rename_i off len k hkat
    simp only [Bool.and_eq_true, decide_eq_true_eq] at hb
    obtain ⟨⟨⟨g1, rfl⟩, rfl⟩, rfl⟩ := hb
    rw [Wp_step (pc' := u) (lv' := lv) (st' := st) (M' := M) hkat rfl rfl (by simp [stp, stA, stB, stC, g1]), knx_mask, h2]
  · cases hb
/-- the ends -/
def kbr (mi pc : Nat) (i : Instr) (rt : Option FieldType) : Bool := match kat mi pc with
  | some (i', _, _) => decide (i = i') && decide (kRet mi = rt)
  | none => false
theorem Wp_retI {sc : Option (Nat × (Nat → Int32))} {d mi pc : Nat} {lv : List (Nat × Value)} {x : Int32} {M : hp} {Q : Option Value → hp → Prop} (hb : kbr mi pc .ireturn (some .int) = true) : Wp sc d mi pc lv [.int x] M Q = Q (some (.int x)) M := by
  unfold kbr at hb
  split at hb
  · rename_i i' len k hkat
    simp only [Bool.and_eq_true, decide_eq_true_eq] at hb
    obtain ⟨rfl, g1⟩ := hb
    exact Wp_ret hkat rfl rfl (by rw [g1]; exact if_pos rfl)
  · cases hb
theorem Wp_retZ {sc : Option (Nat × (Nat → Int32))} {d mi pc : Nat} {lv : List (Nat × Value)} {x : Int32} {M : hp} {Q : Option Value → hp → Prop} (hb : kbr mi pc .ireturn (some .boolean) = true) (hx : x = 0 ∨ x = 1) : Wp sc d mi pc lv [.int x] M Q = Q (some (.int x)) M := by
  unfold kbr at hb
  split at hb
  · rename_i i' len k hkat
    simp only [Bool.and_eq_true, decide_eq_true_eq] at hb
    obtain ⟨rfl, g1⟩ := hb
    exact Wp_ret hkat rfl rfl (by rw [g1]; rcases hx with rfl | rfl <;> rfl)
  · cases hb
theorem Wp_retL {sc : Option (Nat × (Nat → Int32))} {d mi pc : Nat} {lv : List (Nat × Value)} {x : Int64} {M : hp} {Q : Option Value → hp → Prop} (hb : kbr mi pc .lreturn (some .long) = true) : Wp sc d mi pc lv [.long x] M Q = Q (some (.long x)) M := by
  unfold kbr at hb
  split at hb
  · rename_i i' len k hkat
    simp only [Bool.and_eq_true, decide_eq_true_eq] at hb
    obtain ⟨rfl, g1⟩ := hb
    exact Wp_ret hkat rfl rfl (by rw [g1]; rfl)
  · cases hb
theorem Wp_retA {sc : Option (Nat × (Nat → Int32))} {d mi pc : Nat} {lv : List (Nat × Value)} {v : Value} {nm : String} {M : hp} {Q : Option Value → hp → Prop} (hb : kbr mi pc .areturn (some (.object nm)) = true) (hv : isRv v) : Wp sc d mi pc lv [v] M Q = Q (some v) M := by
  unfold kbr at hb
  split at hb
  · rename_i i' len k hkat
    simp only [Bool.and_eq_true, decide_eq_true_eq] at hb
    obtain ⟨rfl, g1⟩ := hb
    rcases isRv_cat hv with ⟨q, rfl⟩ | rfl
    · exact Wp_ret hkat rfl rfl (by rw [g1]; rfl)
    · exact Wp_ret hkat rfl rfl (by rw [g1]; rfl)
  · cases hb
theorem Wp_retV {sc : Option (Nat × (Nat → Int32))} {d mi pc : Nat} {lv : List (Nat × Value)} {M : hp} {Q : Option Value → hp → Prop} (hb : kbr mi pc .return_ none = true) : Wp sc d mi pc lv [] M Q = Q none M := by
  unfold kbr at hb
  split at hb
  · rename_i i' len k hkat
    simp only [Bool.and_eq_true, decide_eq_true_eq] at hb
    obtain ⟨rfl, g1⟩ := hb
    exact Wp_ret hkat rfl rfl (by rw [g1]; rfl)
  · cases hb
/-- calls -/
def kbk (mi pc kd mj na nL2 pc3 : Nat) (mask : Option Nat) (rc : Bool) : Bool := match kat mi pc with
  | some (i, _, _) => decide (kcall i = some (kd * 1000 + mj)) && decide (mj < 1000) && decide (kNA mj = na) && decide ((kM mj).2.2.1 = nL2) && decide (pc + 3 = pc3) && decide (kmask mi pc3 = mask) && (rc == !decide (kLvl mj < kLvl mi))
  | none => false
theorem Wp_callB {sc : Option (Nat × (Nat → Int32))} {d mi pc kd mj na nL2 pc3 : Nat} {mask : Option Nat} {as rest st : List Value} {lv lv2 las : List (Nat × Value)} {M : hp} {Q : Option Value → hp → Prop} (hb : kbk mi pc kd mj na nL2 pc3 mask false = true) (hst : as.reverse ++ rest = st) (hl : as.length = na) (hcat : (rest.map (fun v => v.category)).sum ≤ 8) (hw : (as.map (fun v => v.category)).sum ≤ nL2) (hk : kkeep mask lv = lv2) (hargs : lv_args 0 as = las) (hrecv : krecv kd mj as M = true) :
    Wp sc d mi pc lv st M Q = Wp none d mj 0 las [] M (fun r M1 => Wp sc d mi pc3 lv2 (r.toList ++ rest) M1 Q) := by
  unfold kbk at hb
  split at hb
  · rename_i i len k hkat
    simp only [Bool.and_eq_true, decide_eq_true_eq, beq_iff_eq] at hb
    obtain ⟨⟨⟨⟨⟨⟨g1, g2⟩, rfl⟩, rfl⟩, rfl⟩, rfl⟩, g7⟩ := hb
    have g7 : kLvl mj < kLvl mi := by simpa using g7.symm
    have e1 : (kd * 1000 + mj) % 1000 = mj := by omega
    have e2 : (kd * 1000 + mj) / 1000 = kd := by omega
    subst hst; subst hk; subst hargs
    have t1 : (as.reverse ++ rest).take (kNA mj) = as.reverse := by rw [← hl, ← List.length_reverse, List.take_left']; rfl
    have t2 : (as.reverse ++ rest).drop (kNA mj) = rest := by rw [← hl, ← List.length_reverse, List.drop_left']; rfl
    have h := Wp_call (sc := sc) (d := d) (d' := d) (Q := Q) (M := M) (lv := lv) (st := as.reverse ++ rest) (as := as) (rest := rest) hkat g1 (by unfold dcall; rw [e1, if_pos g7]) (by rw [e1, t1, List.reverse_reverse]) (by rw [e1, t2]) ⟨by rw [e1, e2]; exact hrecv, by rw [e1, List.length_append, List.length_reverse, hl]; omega, hcat, by rw [e1, t1, List.map_reverse, List.sum_reverse]; exact hw⟩
    rw [h, e1, knx_mask]
  · cases hb
theorem Wp_callR {sc : Option (Nat × (Nat → Int32))} {d mi pc kd mj na nL2 pc3 : Nat} {mask : Option Nat} {as rest st : List Value} {lv lv2 las : List (Nat × Value)} {M : hp} {Q : Option Value → hp → Prop} (hb : kbk mi pc kd mj na nL2 pc3 mask true = true) (hst : as.reverse ++ rest = st) (hl : as.length = na) (hcat : (rest.map (fun v => v.category)).sum ≤ 8) (hw : (as.map (fun v => v.category)).sum ≤ nL2) (hk : kkeep mask lv = lv2) (hargs : lv_args 0 as = las) (hrecv : krecv kd mj as M = true) :
    Wp sc (d + 1) mi pc lv st M Q = Wp none d mj 0 las [] M (fun r M1 => Wp sc (d + 1) mi pc3 lv2 (r.toList ++ rest) M1 Q) := by
  unfold kbk at hb
  split at hb
  · rename_i i len k hkat
    simp only [Bool.and_eq_true, decide_eq_true_eq, beq_iff_eq] at hb
    obtain ⟨⟨⟨⟨⟨⟨g1, g2⟩, rfl⟩, rfl⟩, rfl⟩, rfl⟩, g7⟩ := hb
    have g7 : ¬ kLvl mj < kLvl mi := by simpa using g7.symm
    have e1 : (kd * 1000 + mj) % 1000 = mj := by omega
    have e2 : (kd * 1000 + mj) / 1000 = kd := by omega
    subst hst; subst hk; subst hargs
    have t1 : (as.reverse ++ rest).take (kNA mj) = as.reverse := by rw [← hl, ← List.length_reverse, List.take_left']; rfl
    have t2 : (as.reverse ++ rest).drop (kNA mj) = rest := by rw [← hl, ← List.length_reverse, List.drop_left']; rfl
    have h := Wp_call (sc := sc) (d := d + 1) (d' := d) (Q := Q) (M := M) (lv := lv) (st := as.reverse ++ rest) (as := as) (rest := rest) hkat g1 (by unfold dcall; rw [e1, if_neg g7]) (by rw [e1, t1, List.reverse_reverse]) (by rw [e1, t2]) ⟨by rw [e1, e2]; exact hrecv, by rw [e1, List.length_append, List.length_reverse, hl]; omega, hcat, by rw [e1, t1, List.map_reverse, List.sum_reverse]; exact hw⟩
    rw [h, e1, knx_mask]
  · cases hb
