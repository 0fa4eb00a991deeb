variable {d : Nat} {M : hp} {Q : Option Value → hp → Prop}
/-! what is done: hang, take, think, pass; what can be undone -/
abbrev Ent : Type := (Nat → Int32) × (Nat → Int32) × Int32 × Int32
abbrev USt : Type := Nat × (Nat → Ent)
abbrev ASt : Type := (Nat → Int32) × (Nat → Int32) × Int32 × USt
def pushU (e : Ent) (u : USt) : USt := if u.1 = 16 then (16, fun k => if k = 15 then e else u.2 (k + 1)) else (u.1 + 1, fun k => if k = u.1 then e else u.2 k)
def EntC (M : hp) (y : Nat) (e : Ent) : Prop := (∀ j, j < 7 → hI M 104 (16 * y + j) = e.1 j ∧ hI M 104 (16 * y + 7 + j) = e.2.1 j) ∧ hI M 104 (16 * y + 14) = e.2.2.1 ∧ hI M 104 (16 * y + 15) = e.2.2.2
def EntR (M : hp) (lk rn : Int32) (k : Nat) (e : Ent) : Prop := (∀ j, j < 7 → hI M 131 (17 * k + 3 + j) = e.1 j ∧ hI M 131 (17 * k + 10 + j) = e.2.1 j) ∧ hI M 131 (17 * k) = e.2.2.1 ∧ hI M 131 (17 * k + 1) = lk ∧ hI M 131 (17 * k + 2) = rn ∧ hI M 132 k = e.2.2.2
/-- the class's ring holds u -/
def ClU (M : hp) (u : USt) : Prop := ∃ x, x < 16 ∧ hI M 103 1 = nI x ∧ hI M 103 2 = nI u.1 ∧ u.1 ≤ 16 ∧ ∀ k, k < u.1 → EntC M ((x + 16 - u.1 + k) % 16) (u.2 k)
/-- the reference's rows hold u -/
def RfU (M : hp) (lk rn : Int32) (u : USt) : Prop := hI M 126 8 = nI u.1 ∧ u.1 ≤ 16 ∧ ∀ k, k < u.1 → EntR M lk rn k (u.2 k)
def WFe (n : Nat) (e : Ent) : Prop := PegS e.1 n ∧ KnoS e.2.1 n ∧ (∃ x, x ≤ 999 ∧ e.2.2.1 = nI x) ∧ ∃ v, v < 4 ∧ e.2.2.2 = nI v
def WFa (n : Nat) (s : ASt) : Prop := PegS s.1 n ∧ KnoS s.2.1 n ∧ (∃ x, x ≤ 999 ∧ s.2.2.1 = nI x) ∧ (∀ k, 7 ≤ k → s.1 k = 0 ∧ s.2.1 k = 0) ∧ s.2.2.2.1 ≤ 16 ∧ ∀ k, k < s.2.2.2.1 → WFe n (s.2.2.2.2 k)
theorem push_le {e : Ent} {u : USt} (h : u.1 ≤ 16) : (pushU e u).1 ≤ 16 := by
  unfold pushU
  by_cases c : u.1 = 16
  · rw [if_pos c]; exact Nat.le_refl 16
  · rw [if_neg c]; show u.1 + 1 ≤ 16; omega
theorem push_all {e : Ent} {u : USt} {R : Ent → Prop} (he : R e) (hu : ∀ k, k < u.1 → R (u.2 k)) : ∀ k, k < (pushU e u).1 → R ((pushU e u).2 k) := by
  unfold pushU
  by_cases c : u.1 = 16
  · rw [if_pos c]
    intro k hk
    have hk : k < 16 := hk
    show R (if k = 15 then e else u.2 (k + 1))
    by_cases c2 : k = 15
    · rw [if_pos c2]; exact he
    · rw [if_neg c2]; exact hu _ (by omega)
  · rw [if_neg c]
    intro k hk
    have hk : k < u.1 + 1 := hk
    show R (if k = u.1 then e else u.2 k)
    by_cases c2 : k = u.1
    · rw [if_pos c2]; exact he
    · rw [if_neg c2]; exact hu _ (by omega)
theorem EntC_fr {M' : hp} {y : Nat} {e : Ent} (h : EntC M y e) (hy : ∀ k, 16 * y ≤ k → k < 16 * y + 16 → hI M' 104 k = hI M 104 k) : EntC M' y e := by
  obtain ⟨h1, h2, h3⟩ := h
  refine ⟨fun j hj => ?_, (hy _ (by omega) (by omega)).trans h2, (hy _ (by omega) (by omega)).trans h3⟩
  rw [hy _ (by omega) (by omega), hy _ (by omega) (by omega)]
  exact h1 j hj
theorem keep_ok {u : USt} {kind : Int32} (X : XS M) (C : ClU M u) (hQ : ∀ M', agr [103, 104] M M' → ClU M' (pushU (hI M 68, hI M 69, hI M 65 5, kind) u) → Q none M') : Wp none d 46 0 [(0, .ref 103), (1, .int kind), (2, .ref 65)] [] M Q := by
  obtain ⟨x, x16, h1, h2, h3, h4⟩ := C
  refine Past_keep X.2.2.2.2.2.2.2.1 X.2.1 h1 x16 h2 h3 (Or.inr (by omega)) (fun M' a g1 g2 g3 => hQ M' a ?_)
  have g1 : ∀ k, hI M' 104 k = if 16 * x ≤ k ∧ k < 16 * x + 16 then snap (hI M 68) (hI M 69) (hI M 65 5) kind (k - 16 * x) else hI M 104 k := g1
  have new : EntC M' x (hI M 68, hI M 69, hI M 65 5, kind) := by
    refine ⟨fun j hj => ?_, ?_, ?_⟩
    · rw [g1, g1, if_pos (by omega), if_pos (by omega)]
      unfold snap
      rw [if_pos (by omega), if_neg (by omega), if_pos (by omega), show 16 * x + j - 16 * x = j by omega, show 16 * x + 7 + j - 16 * x - 7 = j by omega]
      exact ⟨rfl, rfl⟩
    · rw [g1, if_pos (by omega)]
      unfold snap
      rw [if_neg (by omega), if_neg (by omega), if_pos (by omega)]
    · rw [g1, if_pos (by omega)]
      unfold snap
      rw [if_neg (by omega), if_neg (by omega), if_neg (by omega)]
  have old : ∀ y e, y < 16 → ¬ y = x → EntC M y e → EntC M' y e := fun y e hy hne he => EntC_fr he (fun k k1 k2 => by rw [g1, if_neg (by omega)])
  unfold pushU
  by_cases c : u.1 = 16
  · rw [if_pos c]
    refine ⟨(x + 1) % 16, Nat.mod_lt _ (by omega), g2, by rw [g3]; congr 1; omega, Nat.le_refl 16, fun k hk => ?_⟩
    have hk : k < 16 := hk
    show EntC M' (((x + 1) % 16 + 16 - 16 + k) % 16) (if k = 15 then (hI M 68, hI M 69, hI M 65 5, kind) else u.2 (k + 1))
    by_cases c2 : k = 15
    · rw [if_pos c2, show ((x + 1) % 16 + 16 - 16 + k) % 16 = x by omega]
      exact new
    · rw [if_neg c2]
      have := h4 (k + 1) (by omega)
      rw [show (x + 16 - u.1 + (k + 1)) % 16 = ((x + 1) % 16 + 16 - 16 + k) % 16 by omega] at this
      exact old _ _ (Nat.mod_lt _ (by omega)) (by omega) this
  · rw [if_neg c]
    refine ⟨(x + 1) % 16, Nat.mod_lt _ (by omega), g2, by rw [g3]; congr 1; show min (u.1 + 1) 16 = u.1 + 1; omega, by show u.1 + 1 ≤ 16; omega, fun k hk => ?_⟩
    have hk : k < u.1 + 1 := hk
    show EntC M' (((x + 1) % 16 + 16 - (u.1 + 1) + k) % 16) (if k = u.1 then (hI M 68, hI M 69, hI M 65 5, kind) else u.2 k)
    by_cases c2 : k = u.1
    · rw [if_pos c2, show ((x + 1) % 16 + 16 - (u.1 + 1) + k) % 16 = x by omega]
      exact new
    · rw [if_neg c2]
      have := h4 k (by omega)
      rw [show (x + 16 - u.1 + k) % 16 = ((x + 1) % 16 + 16 - (u.1 + 1) + k) % 16 by omega] at this
      exact old _ _ (Nat.mod_lt _ (by omega)) (by omega) this
/-- the reference remembers -/
theorem EntR_fr {M' : hp} {lk rn : Int32} {k k' : Nat} {e : Ent} (h : EntR M lk rn k e) (h1 : ∀ i, i < 17 → hI M' 131 (17 * k' + i) = hI M 131 (17 * k + i)) (h2 : hI M' 132 k' = hI M 132 k) : EntR M' lk rn k' e := by
  obtain ⟨g1, g2, g3, g4, g5⟩ := h
  refine ⟨fun j hj => ?_, (h1 0 (by omega)).trans g2, (h1 1 (by omega)).trans g3, (h1 2 (by omega)).trans g4, h2.trans g5⟩
  have a1 := h1 (3 + j) (by omega)
  have a2 := h1 (10 + j) (by omega)
  rw [← Nat.add_assoc, ← Nat.add_assoc] at a1 a2
  rw [a1, a2]
  exact g1 j hj
theorem mRemember {n : Nat} {u : USt} {D T P W : Nat → Int32} {hr rn lk kind : Int32} {L : Law} (Y : RP M n D T P W hr rn L) (hlk : hI M 128 5 = lk) (U : RfU M lk rn u) (hQ : ∀ M', agr [126, 131, 132] M M' → hL M' = hL M → (∀ k, ¬ k = 8 → hI M' 126 k = hI M 126 k) → (∀ l, 289 ≤ l → hI M' 131 l = hI M 131 l) → RfU M' lk rn (pushU (P, W, hr, kind) u) → Q none M') : Wp none d 161 0 [(0, .ref 126), (1, .int kind)] [] M Q := by
  have F := Y.F
  obtain ⟨u1, u2, u3⟩ := U
  have v16 : ∀ j, j < 16 → vin (nI j) 16 = true := fun j q => by rw [vin_n (by omega)]; exact decide_eq_true q
  -- the end: the picture is kept at c
  have fin : ∀ (c : Nat) (M1 : hp), c < 16 → agr [126, 131, 132] M M1 → hL M1 = hL M → (∀ k, ¬ k = 8 → hI M1 126 k = hI M 126 k) → hI M1 126 8 = nI c → (∀ l, 289 ≤ l → hI M1 131 l = hI M 131 l) → (∀ M', (∀ k, k < c → (∀ i, i < 17 → hI M' 131 (17 * k + i) = hI M1 131 (17 * k + i)) ∧ hI M' 132 k = hI M1 132 k) → EntR M' lk rn c (P, W, hr, kind) → hI M' 126 8 = nI (c + 1) → RfU M' lk rn (pushU (P, W, hr, kind) u)) → Wp none d 161 77 [(0, .ref 126), (1, .int kind)] [] M1 Q := by
    intro c M1 hc a1 eL e1 h8 h289 hU
    have F1 := MF_agr F a1
    have e128 : hI M1 128 = hI M 128 := agr_I a1 (by decide)
    have F2 : MF (sIs M1 131 (17 * c) 17 (fun i => hI M1 128 (4 + i))) := F1
    have g8 : hI (sIs M1 131 (17 * c) 17 (fun i => hI M1 128 (4 + i))) 126 8 = nI c := by rw [hI_sIs_a (by decide)]; exact h8
    have F3 : MF (sI (sIs M1 131 (17 * c) 17 (fun i => hI M1 128 (4 + i))) 132 c kind) := F1
    have g8' : hI (sI (sIs M1 131 (17 * c) 17 (fun i => hI M1 128 (4 + i))) 132 c kind) 126 8 = nI c := by rw [hI_sI_a (by decide)]; exact g8
    rw [k161_77 (m_9 F1), h8, k161_82 (m_9 F1), mKeep F1 (by omega)]
    simp only [oZ]
    rw [m161_85 F2 (by rw [g8]; exact v16 c hc), g8, n_cl (by omega), k161_95 (m_9 F3), g8', nI_1]
    have aa : agr [126, 131, 132] M (sI (sI (sIs M1 131 (17 * c) 17 (fun i => hI M1 128 (4 + i))) 132 c kind) 126 8 (nI (c + 1))) := agr_trans a1 (agr_trans (agr_trans (agr_sIs (by decide)) (agr_sI (by decide))) (agr_sI (by decide)))
    have r131 : ∀ l, hI (sI (sI (sIs M1 131 (17 * c) 17 (fun i => hI M1 128 (4 + i))) 132 c kind) 126 8 (nI (c + 1))) 131 l = if 17 * c ≤ l ∧ l < 17 * c + 17 then hI M 128 (4 + (l - 17 * c)) else hI M1 131 l := by
      intro l
      rw [hI_sI_a (by decide), hI_sI_a (by decide), hI_sIs, e128]
      by_cases q : 17 * c ≤ l ∧ l < 17 * c + 17
      · rw [if_pos ⟨rfl, q⟩, if_pos q]
      · rw [if_neg (fun z => q z.2), if_neg q]
    have r132 : ∀ l, hI (sI (sI (sIs M1 131 (17 * c) 17 (fun i => hI M1 128 (4 + i))) 132 c kind) 126 8 (nI (c + 1))) 132 l = if l = c then kind else hI M1 132 l := by
      intro l
      rw [hI_sI_a (by decide)]
      by_cases q : l = c
      · rw [if_pos q, q, hI_sI_s]
      · rw [if_neg q, hI_sI_k q, hI_sIs_a (by decide)]
    refine hQ _ aa eL (fun k q => ?_) (fun l hl => ?_) (hU _ (fun k hk => ⟨fun i hi => ?_, ?_⟩) ⟨fun j hj => ?_, ?_, ?_, ?_, ?_⟩ (hI_sI_s _ _ _ _))
    · rw [hI_sI_k q, hI_sI_a (by decide), hI_sIs_a (by decide)]; exact e1 k q
    · rw [r131, if_neg (by omega)]; exact h289 l hl
    · rw [r131, if_neg (by omega)]
    · rw [r132, if_neg (by omega)]
    · rw [r131, r131, if_pos (by omega), if_pos (by omega), show 4 + (17 * c + 3 + j - 17 * c) = 7 + j by omega, show 4 + (17 * c + 10 + j - 17 * c) = 14 + j by omega]
      exact ⟨Y.rP j hj, Y.rW j hj⟩
    · rw [r131, if_pos (by omega), show 4 + (17 * c - 17 * c) = 4 by omega]; exact Y.rh
    · rw [r131, if_pos (by omega), show 4 + (17 * c + 1 - 17 * c) = 5 by omega]; exact hlk
    · rw [r131, if_pos (by omega), show 4 + (17 * c + 2 - 17 * c) = 6 by omega]; exact Y.rr
    · rw [r132, if_pos rfl]
  rw [k161_0 (m_9 F), u1, k161_6]
  by_cases c : u.1 = 16
  · rw [if_neg (by rw [c]; decide), k161_9]
    have key := for_0 (W := fun i => Wp none d 161 11 [(0, .ref 126), (1, .int kind), (2, .int (nI i))] [] (sIs M 131 0 i (fun i => hI M 131 (i + 17))) Q) (n := 255) (fun i hi => by
      have F' : MF (sIs M 131 0 i (fun i => hI M 131 (i + 17))) := F
      have one := sIs_1 M 131 0 i (fun i => hI M 131 (i + 17))
      rw [Nat.zero_add] at one
      show Wp none d 161 11 [(0, .ref 126), (1, .int kind), (2, .int (nI i))] [] (sIs M 131 0 i (fun i => hI M 131 (i + 17))) Q = Wp none d 161 11 [(0, .ref 126), (1, .int kind), (2, .int (nI (i + 1)))] [] (sIs M 131 0 (i + 1) (fun i => hI M 131 (i + 17))) Q
      rw [k161_11, k161_15, show (255 : Int32) = nI 255 from rfl, if_neg (by rw [n_le (by omega) (by omega)]; omega), m161_18 F' (by rw [show nI i + 17 = nI (i + 17) from n_addl i 17]; exact v306 (by omega)) (v306 (by omega)), show nI i + 17 = nI (i + 17) from n_addl i 17, n_cl (by omega), n_cl (by omega), hI_sIs_k (by omega), one, k161_33, nI_1]) 255 0 (by omega)
    have key2 : Wp none d 161 11 [(0, .ref 126), (1, .int kind), (2, .int 0)] [] M Q = Wp none d 161 11 [(0, .ref 126), (1, .int kind), (2, .int (nI 255))] [] (sIs M 131 0 255 (fun i => hI M 131 (i + 17))) Q := by
      have := key
      simp only [sIs_0] at this
      exact this
    rw [key2, k161_11, k161_15, if_pos (by decide), k161_39]
    generalize hMa : sIs M 131 0 255 (fun i => hI M 131 (i + 17)) = Ma
    have aa : agr [131] M Ma := by rw [← hMa]; exact agr_sIs (by decide)
    have ra : ∀ l, hI Ma 131 l = if l < 255 then hI M 131 (l + 17) else hI M 131 l := by
      intro l
      rw [← hMa, hI_sIs]
      by_cases q : l < 255
      · rw [if_pos ⟨rfl, by omega, by omega⟩, if_pos q, Nat.sub_zero]
      · rw [if_neg (fun z => q (by omega)), if_neg q]
    have Fa := MF_agr F aa
    have kez := for_0 (W := fun i => Wp none d 161 41 [(0, .ref 126), (1, .int kind), (2, .int (nI i))] [] (sIs Ma 132 0 i (fun i => hI Ma 132 (i + 1))) Q) (n := 15) (fun i hi => by
      have F' : MF (sIs Ma 132 0 i (fun i => hI Ma 132 (i + 1))) := Fa
      have one := sIs_1 Ma 132 0 i (fun i => hI Ma 132 (i + 1))
      rw [Nat.zero_add] at one
      show Wp none d 161 41 [(0, .ref 126), (1, .int kind), (2, .int (nI i))] [] (sIs Ma 132 0 i (fun i => hI Ma 132 (i + 1))) Q = Wp none d 161 41 [(0, .ref 126), (1, .int kind), (2, .int (nI (i + 1)))] [] (sIs Ma 132 0 (i + 1) (fun i => hI Ma 132 (i + 1))) Q
      rw [k161_41, k161_44, show (15 : Int32) = nI 15 from rfl, if_neg (by rw [n_le (by omega) (by omega)]; omega), m161_47 F' (by rw [nI_1]; exact v16 _ (by omega)) (v16 _ (by omega)), nI_1, n_cl (by omega), n_cl (by omega), hI_sIs_k (by omega), one, k161_61, nI_1]) 15 0 (by omega)
    have kez2 : Wp none d 161 41 [(0, .ref 126), (1, .int kind), (2, .int 0)] [] Ma Q = Wp none d 161 41 [(0, .ref 126), (1, .int kind), (2, .int (nI 15))] [] (sIs Ma 132 0 15 (fun i => hI Ma 132 (i + 1))) Q := by
      have := kez
      simp only [sIs_0] at this
      exact this
    rw [kez2, k161_41, k161_44, if_pos (by decide)]
    generalize hMb : sIs Ma 132 0 15 (fun i => hI Ma 132 (i + 1)) = Mb
    have ab : agr [132] Ma Mb := by rw [← hMb]; exact agr_sIs (by decide)
    have rb : ∀ l, hI Mb 132 l = if l < 15 then hI M 132 (l + 1) else hI M 132 l := by
      intro l
      rw [← hMb, hI_sIs, agr_I aa (a := 132) (by decide)]
      by_cases q : l < 15
      · rw [if_pos ⟨rfl, by omega, by omega⟩, if_pos q, Nat.sub_zero]
      · rw [if_neg (fun z => q (by omega)), if_neg q]
    have Fb := MF_agr Fa ab
    have e8 : hI Mb 126 8 = nI 16 := by rw [agr_I ab (a := 126) (by decide), agr_I aa (a := 126) (by decide), u1, c]
    have e131 : hI Mb 131 = hI Ma 131 := agr_I ab (by decide)
    rw [k161_67 (m_9 Fb), e8, show nI 16 - 1 = nI 15 from by decide]
    refine fin 15 _ (by omega) (agr_trans (agr_mono aa (by intro x q; simp at q ⊢; omega)) (agr_trans (agr_mono ab (by intro x q; simp at q ⊢; omega)) (agr_sI (by decide)))) (by show hL Mb = hL M; rw [← hMb, ← hMa]; rfl) (fun k q => by rw [hI_sI_k q, agr_I ab (a := 126) (by decide), agr_I aa (a := 126) (by decide)]) (hI_sI_s _ _ _ _) (fun l hl => by rw [hI_sI_a (by decide), e131, ra, if_neg (by omega)]) (fun M' hk he h8 => ?_)
    unfold pushU
    rw [if_pos c]
    refine ⟨h8, Nat.le_refl 16, fun k q => ?_⟩
    have q : k < 16 := q
    show EntR M' lk rn k (if k = 15 then (P, W, hr, kind) else u.2 (k + 1))
    by_cases c2 : k = 15
    · rw [if_pos c2, c2]; exact he
    · rw [if_neg c2]
      obtain ⟨k1, k2⟩ := hk k (by omega)
      refine EntR_fr (u3 (k + 1) (by omega)) (fun i hi => ?_) ?_
      · rw [k1 i hi, hI_sI_a (by decide), e131, ra, if_pos (by omega)]
        congr 1
        omega
      · rw [k2, hI_sI_a (by decide), rb, if_pos (by omega)]
  · rw [if_pos (by show ¬ nI u.1 = nI 16; rw [n_eq (by omega) (by omega)]; exact c)]
    refine fin u.1 M (by omega) (agr_refl _ _) rfl (fun _ _ => rfl) u1 (fun _ _ => rfl) (fun M' hk he h8 => ?_)
    unfold pushU
    rw [if_neg c]
    refine ⟨h8, by show u.1 + 1 ≤ 16; omega, fun k q => ?_⟩
    have q : k < u.1 + 1 := q
    show EntR M' lk rn k (if k = u.1 then (P, W, hr, kind) else u.2 k)
    by_cases c2 : k = u.1
    · rw [if_pos c2, c2]; exact he
    · rw [if_neg c2]
      obtain ⟨k1, k2⟩ := hk k (by omega)
      exact EntR_fr (u3 k (by omega)) k1 k2
