theorem krecv_ok {kd mj a : Nat} {As : List Value} {M : hp} (hk : kd = 0 ∨ kd = 1) (h : (hK M a).1 = kOwn mj) : krecv kd mj (.ref a :: As) M = true := by
  rcases hk with rfl | rfl
  · exact decide_eq_true h
  · exact decide_eq_true h
theorem krecv_c {kd mj a : Nat} {As : List Value} {M : hp} (hk : kd = 4 ∨ kd = 5) : krecv kd mj (.ref a :: As) M = true := by
  rcases hk with rfl | rfl <;> rfl
theorem krv_ne {q : Nat} (h : ¬ q = 0) : krv q = .ref q := if_neg h
theorem krv_0 : krv 0 = .null := rfl
/-- switches -/
def swT : List (Int32 × Nat × Option Nat) → Nat → Int → Nat
  | [], dt, _ => dt
  | (k, t, _) :: r, dt, z => if z = k.toInt then t else swT r dt z
def swW (W : Nat → Option Nat → Prop) (x : Int32) : List (Int32 × Nat × Option Nat) → Nat → Option Nat → Prop
  | [], dt, dm => W dt dm
  | (k, t, m) :: r, dt, dm => if x = k then W t m else swW W x r dt dm
theorem swW_T (W : Nat → Option Nat → Prop) (f : Nat → Option Nat) (x : Int32) : ∀ (cs : List (Int32 × Nat × Option Nat)) (dt : Nat) (dm : Option Nat), cs.all (fun c => decide (f c.2.1 = c.2.2)) = true → f dt = dm → swW W x cs dt dm = W (swT cs dt x.toInt) (f (swT cs dt x.toInt)) := by
  intro cs
  induction cs with
  | nil => intro dt dm _ h; simp [swW, swT, h]
  | cons c r ih =>
    intro dt dm h1 h2
    obtain ⟨k, t, m⟩ := c
    simp only [List.all_cons, Bool.and_eq_true, decide_eq_true_eq] at h1
    simp only [swW, swT]
    by_cases q : x = k
    · subst q
      rw [if_pos rfl, if_pos rfl, h1.1]
    · rw [if_neg q, if_neg (fun z => q (Int32.toInt_inj.mp z))]
      exact ih dt dm h1.2 h2
theorem swT_out : ∀ (cs : List (Int32 × Nat × Option Nat)) (dt : Nat) (z : Int), (∀ c ∈ cs, ¬ z = c.1.toInt) → swT cs dt z = dt := by
  intro cs
  induction cs with
  | nil => intro dt z _; rfl
  | cons c r ih =>
    intro dt z h
    obtain ⟨k, t, m⟩ := c
    simp only [swT]
    rw [if_neg (h _ List.mem_cons_self)]
    exact ih dt z fun c hc => h c (List.mem_cons_of_mem _ hc)
def kbs (mi pc : Nat) (cs : List (Int32 × Nat × Option Nat)) (dt : Nat) (dm : Option Nat) : Bool := cs.all (fun c => decide (kmask mi c.2.1 = c.2.2)) && decide (kmask mi dt = dm) && (match kat mi pc with
  | some (.tableswitch dflt lo hi offs, _, _) => decide (jmp pc dflt = some dt) && cs.all (fun c => decide (lo ≤ c.1.toInt ∧ c.1.toInt ≤ hi)) && decide (hi - lo + 1 = (offs.size : Int)) && (List.range offs.size).all (fun j => match offs[j]? with | some o => decide (jmp pc o = some (swT cs dt (lo + j))) | none => false)
  | some (.lookupswitch dflt ps, _, _) => (ps.toList.zip (ps.toList.drop 1)).all (fun (a, next) => a.1 < next.1) && decide (jmp pc dflt = some dt) && ps.toList.all (fun q => decide (jmp pc q.2 = some (swT cs dt q.1))) && cs.all (fun c => ps.toList.any (fun q => decide (q.1 = c.1.toInt)))
  | _ => false)
theorem lsw_off (pc dt : Nat) (cs : List (Int32 × Nat × Option Nat)) (dflt : Int) (hd : jmp pc dflt = some dt) (z : Int) : ∀ l : List (Int × Int), l.all (fun q => decide (jmp pc q.2 = some (swT cs dt q.1))) = true → (∀ c ∈ cs, c.1.toInt = z → ∃ q ∈ l, q.1 = z) → jmp pc (Op.lookupswitch.offset l dflt z) = some (swT cs dt z) := by
  intro l
  induction l with
  | nil =>
    intro _ h2
    rw [show Op.lookupswitch.offset [] dflt z = dflt from rfl, hd, swT_out]
    intro c hc e
    obtain ⟨q, hq, -⟩ := h2 c hc e.symm
    cases hq
  | cons q r ih =>
    intro h1 h2
    obtain ⟨k, o⟩ := q
    simp only [List.all_cons, Bool.and_eq_true, decide_eq_true_eq] at h1
    rw [Op.lookupswitch.offset_cons]
    by_cases e : k = z
    · subst e
      rw [if_pos rfl]
      exact h1.1
    · rw [if_neg e]
      refine ih h1.2 fun c hc hz => ?_
      obtain ⟨q, hq, hqz⟩ := h2 c hc hz
      rcases List.mem_cons.mp hq with rfl | hq
      · exact absurd hqz e
      · exact ⟨q, hq, hqz⟩
theorem Wp_sw {sc : Option (Nat × (Nat → Int32))} {d mi pc dt : Nat} {dm : Option Nat} {cs : List (Int32 × Nat × Option Nat)} {lv : List (Nat × Value)} {x : Int32} {st : List Value} {M : hp} {Q : Option Value → hp → Prop} (hb : kbs mi pc cs dt dm = true) {P : Prop} (hP : swW (fun t m => Wp sc d mi t (kkeep m lv) st M Q) x cs dt dm = P) :
    Wp sc d mi pc lv (.int x :: st) M Q = P := by
  subst hP
  unfold kbs at hb
  simp only [Bool.and_eq_true] at hb
  obtain ⟨⟨g1, g2⟩, g3⟩ := hb
  rw [swW_T _ (kmask mi) x cs dt dm g1 (of_decide_eq_true g2)]
  have key : ∀ (ins : Instr) (len : Nat) (k : Option Nat), kat mi pc = some (ins, len, k) → kcall ins = none → kisret ins = false → stp sc (kIni mi) (kOwn mi) (kM mi).2.2.1 ins pc len lv (.int x :: st) M = some (swT cs dt x.toInt, lv, st, M) → Wp sc d mi pc lv (.int x :: st) M Q = Wp sc d mi (swT cs dt x.toInt) (kkeep (kmask mi (swT cs dt x.toInt)) lv) st M Q := by
    intro ins len k h1 h2 h3 h4
    rw [Wp_step h1 h2 h3 h4, knx_mask]
  split at g3
  · rename_i dflt lo hi offs len k hkat
    simp only [Bool.and_eq_true, decide_eq_true_eq] at g3
    obtain ⟨⟨⟨a1, a2⟩, a3⟩, a4⟩ := g3
    refine key _ _ _ hkat rfl rfl ?_
    by_cases hr : x.toInt < lo ∨ hi < x.toInt
    · have e : swT cs dt x.toInt = dt := by
        apply swT_out
        intro c hc z
        have := of_decide_eq_true (List.all_eq_true.mp a2 c hc)
        omega
      simp [stp, stA, stB, stC, hr, a1, e]
    · have hj : (x.toInt - lo).toNat < offs.size := by omega
      have h5 := List.all_eq_true.mp a4 (x.toInt - lo).toNat (List.mem_range.mpr hj)
      split at h5
      · rename_i o ho
        have h6 := of_decide_eq_true h5
        rw [show lo + (((x.toInt - lo).toNat : Nat) : Int) = x.toInt by omega] at h6
        simp only [stp, stA, stB, stC]
        rw [if_neg hr, ho]
        simp [h6]
      · cases h5
  · rename_i dflt ps len k hkat
    simp only [Bool.and_eq_true, decide_eq_true_eq] at g3
    obtain ⟨⟨⟨a0, a1⟩, a2⟩, a3⟩ := g3
    refine key _ _ _ hkat rfl rfl ?_
    have h6 := lsw_off pc dt cs dflt a1 x.toInt ps.toList a2 (fun c hc hz => by
      obtain ⟨q, hq, hq2⟩ := List.any_eq_true.mp (List.all_eq_true.mp a3 c hc)
      exact ⟨q, hq, (of_decide_eq_true hq2).trans hz⟩)
    simp only [stp, stA, stB, stC]
    rw [if_pos a0, h6]
    rfl
  · cases g3
