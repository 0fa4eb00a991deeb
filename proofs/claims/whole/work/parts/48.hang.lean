variable {d : Nat} {M : hp} {Q : Option Value → hp → Prop}
/-- what all hats' thoughts weigh then -/
def wgP (L : Law) (M0 : hp) (h n N : Nat) (P : Nat → Int32) : Int32 := fo (fun j s => s + worthG L (hI M0 (h + 1)) (hI M0 (h + 2)) (papW L M0 h n P N) (hI M0 h 5 + nI N) (hI M0 h 7) j) 0 n 0
def hqStep (L : Law) (M0 : hp) (h n N c : Nat) (a : Nat → Int32) (r : Nat) (s : Int32 × Int32) : Int32 × Int32 := match hgF n a r c c 0 (hI M0 (h + 3)) with
  | none => s
  | some P => if s.1 = -1 ∨ wgP L M0 h n N P < s.1 then (wgP L M0 h n N P, nI r) else s
def hqF (L : Law) (M0 : hp) (h n N c : Nat) (a : Nat → Int32) : Int32 × Int32 := fo (hqStep L M0 h n N c a) 0 (10 ^ c) (-1, 0)
theorem hq_cong {L : Law} {M0 M1 : hp} {h n N c : Nat} {a : Nat → Int32} (e : ∀ r, r ≤ 4 → hI M1 (h + r) = hI M0 (h + r)) : hqStep L M1 h n N c a = hqStep L M0 h n N c a := by
  have e0 := e 0 (by omega)
  rw [Nat.add_zero] at e0
  funext r s
  unfold hqStep wgP papW
  rw [e 1 (by omega), e 2 (by omega), e 3 (by omega), e 4 (by omega), e0]
theorem pow10 {c : Nat} (hc : c ≤ 3) : 10 ^ c ≤ 1000 := by
  have : c = 0 ∨ c = 1 ∨ c = 2 ∨ c = 3 := by omega
  rcases this with e | e | e | e <;> subst e <;> decide
theorem rows_loop {pl h c : Nat} {N : Int32} (hc : c ≤ 3) : ∀ (k i : Nat), i + k = c → Wp none d 51 20 [(0, .ref pl), (1, .ref h), (2, .int N), (3, .int (nI c)), (4, .int (nI (10 ^ i))), (5, .int (nI i))] [] M Q = Wp none d 51 39 [(0, .ref pl), (1, .ref h), (2, .int N), (3, .int (nI c)), (4, .int (nI (10 ^ c))), (5, .int (nI c))] [] M Q := by
  intro k
  induction k with
  | zero =>
    intro i e
    have : i = c := by omega
    subst this
    rw [k51_20, k51_23, if_pos (by rw [n_le (by omega) (by omega)]; exact Nat.le_refl i)]
  | succ k ih =>
    intro i e
    rw [k51_20, k51_23, if_neg (by rw [n_le (by omega) (by omega)]; omega), k51_26, nI_1, n_mull, ← Nat.pow_succ]
    exact ih (i + 1) (by omega)
theorem Planner_hangQuietly {h t p pl n N : Nat} {L : Law} (X : Pln M h t p pl n L) (hN : N ≤ 60) (hc : (ofs (hI M (h + 3)) n).1 ≤ 3)
    (hQ : ∀ M', agq (plE p t pl) [t + 5] M M' → HallS M' t → HallZ M' t → hI M' pl 3 = (hqF L M h n N (ofs (hI M (h + 3)) n).1 (ofs (hI M (h + 3)) n).2).1 → hI M' pl 4 = (hqF L M h n N (ofs (hI M (h + 3)) n).1 (ofs (hI M (h + 3)) n).2).2 → Q none M') : Wp none d 51 0 [(0, .ref pl), (1, .ref h), (2, .int (nI N))] [] M Q := by
  have X5 := X.2.2.2.2.1
  have n7 := X.1.2.1.2
  have p64 := X.2.2.2.1.1
  have t64 := X.2.1.1
  have h64 := X.1.1.1
  have l64 := X5.1
  have hp0 := X.1.2.2.1
  have hpB := X.2.2.2.2.2
  rw [k51_0 X5.2.1 (by rw [X5.2.2.2.1]; omega), X5.2.2.2.1, k51_5 X.2.1.2.1]
  refine start_ok X ?_
  intro M0 B0 a1 P0 eh
  have e3 := eh 3 (by omega)
  simp only [oZ]
  rw [k51_8, k51_10 P0.2.1]
  refine findOff_ok P0 B0.1.1 B0.1.2.1 (by rw [e3]; exact hc) (by omega) ?_
  rw [e3]
  generalize hcc : (ofs (hI M (h + 3)) n).1 = c at *
  have hoj : ∀ i, i < c → ∃ j, j < n ∧ (ofs (hI M (h + 3)) n).2 i = nI j := by
    intro i hi
    exact ofs_at _ n i (by omega)
  generalize (ofs (hI M (h + 3)) n).2 = a at *
  intro M1 b1 ha
  simp only [oN]
  rw [k51_13]
  have bs : agr [pl, pl + 1] M0 M1 := agr_mono b1 (by intro x q; simp at q ⊢; omega)
  have B1 := Bas_agr B0 bs
  have P1 : PlanS M1 pl p t := by unfold PlanS at *; rw [agr_K b1, agr_R b1]; exact P0
  have eh1 : ∀ r, r ≤ 4 → hI M1 (h + r) = hI M (h + r) := fun r hr => by rw [agr_I b1 (by simp; omega), eh r hr]
  have rl := rows_loop (d := d) (M := M1) (Q := Q) (pl := pl) (h := h) (N := nI N) hc c 0 (by omega)
  rw [show (1 : Int32) = nI (10 ^ 0) from rfl, show (0 : Int32) = nI 0 from rfl, rl, k51_39 P1.2.1, k51_44 (M := sI M1 pl 3 (-1)) P1.2.1, k51_49]
  have fin : ∀ (Mb M2 : hp), agr [pl, pl + 1] M0 Mb → Mid Mb M2 t p pl → agq (plE p t pl) [t + 5] M M2 := by
    intro Mb M2 q1 q2
    refine agq_trans (agq_trans (agq_mono a1 ?_ (fun a q => q)) (agq_mono (agq_of (B := []) q1) ?_ (fun a q => by simp at q))) (agq_mono (agq_of (B := []) q2.1) ?_ (fun a q => by simp at q))
    · intro a q
      unfold cE at q
      unfold plE
      simp at q ⊢
      omega
    · intro a q
      unfold plE
      simp at q ⊢
      omega
    · intro a q
      unfold pE nF at q
      unfold plE nF
      simp at q ⊢
      omega
  have h10 := pow10 hc
  have key : ∀ (k r : Nat) (s : Int32 × Int32) (Mb M2 : hp), r + k = 10 ^ c → agr [pl, pl + 1] M0 Mb → (∀ i, i < c → hI Mb (pl + 1) i = a i) → hI Mb pl 3 = s.1 → hI Mb pl 4 = s.2 → Mid Mb M2 t p pl → fo (hqStep L M h n N c a) r k s = hqF L M h n N c a → Wp none d 51 52 [(0, .ref pl), (1, .ref h), (2, .int (nI N)), (3, .int (nI c)), (4, .int (nI (10 ^ c))), (5, .int (nI r))] [] M2 Q := by
    intro k
    induction k with
    | zero =>
      intro r s Mb M2 e q1 q2 q3 q4 m1 hs
      have : r = 10 ^ c := by omega
      subst this
      have hs2 : s = hqF L M h n N c a := hs
      have Bb := Bas_agr B0 q1
      have f := fin_Z Bb m1
      rw [k51_52, k51_56, if_pos (by rw [n_le (by omega) (by omega)]; exact Nat.le_refl _), k51_137]
      refine hQ M2 (fin Mb M2 q1 m1) f.1 f.2 ?_ ?_
      · rw [agr_I m1.1 (by unfold pE nF; simp; omega), q3, hs2]
      · rw [agr_I m1.1 (by unfold pE nF; simp; omega), q4, hs2]
    | succ k ih =>
      intro r s Mb M2 e q1 q2 q3 q4 m1 hs
      have hs2 : fo (hqStep L M h n N c a) (r + 1) k (hqStep L M h n N c a r s) = hqF L M h n N c a := hs
      have Bb := Bas_agr B0 q1
      have Pb : PlanS Mb pl p t := by unfold PlanS at *; rw [agr_K q1, agr_R q1]; exact P0
      have ehb : ∀ r, r ≤ 4 → hI Mb (h + r) = hI M (h + r) := fun r hr => by rw [agr_I q1 (by simp; omega), eh r hr]
      have ec := hq_cong (L := L) (n := n) (N := N) (c := c) (a := a) ehb
      rw [← ec] at hs2
      have nxt : ∀ (s : Int32 × Int32) (Mb M2 : hp), agr [pl, pl + 1] M0 Mb → (∀ i, i < c → hI Mb (pl + 1) i = a i) → hI Mb pl 3 = s.1 → hI Mb pl 4 = s.2 → Mid Mb M2 t p pl → fo (hqStep L M h n N c a) (r + 1) k s = hqF L M h n N c a → Wp none d 51 131 [(0, .ref pl), (1, .ref h), (2, .int (nI N)), (3, .int (nI c)), (4, .int (nI (10 ^ c))), (5, .int (nI r))] [] M2 Q := by
        intro s Mb M2 w1 w2 w3 w4 w5 w6
        rw [k51_131, nI_1]
        exact ih (r + 1) s Mb M2 (by omega) w1 w2 w3 w4 w5 w6
      have hpl : (hK M2 pl).1 = 4 := by rw [agr_K m1.1]; exact Pb.2.1
      have hr1 : hR M2 pl 1 = t := by rw [agr_R m1.1]; exact Pb.2.2.2.1
      rw [k51_52, k51_56, if_neg (by rw [n_le (by omega) (by omega)]; omega), k51_59 hpl (by rw [hr1]; omega), hr1, k51_64 (by rw [agr_K m1.1]; exact Bb.2.1.1.2.1)]
      refine mv_ok Bb m1 ?_
      intro M3 Y3
      have hpl3 : (hK M3 pl).1 = 4 := by rw [agr_K Y3.1.1]; exact Pb.2.1
      have e3b := ehb 3 (by omega)
      simp only [oZ]
      rw [k51_67, k51_71 hpl3, k53_0, show (0 : Int32) = nI 0 from rfl]
      refine hangRow_ok (L := L) (n := n) (a := a) Bb Pb hc (by omega) q2 hoj Bb.1.2.2.2.1 ?_ ?_ c 0 _ M3 (by omega) Y3 Bb.1.2.2.1 rfl
      · intro M4 P' hg Y4
        have PS := hgF_ok n7 hoj c 0 _ (by omega) Bb.1.2.2.1 P' hg
        have hpl4 : (hK M4 pl).1 = 4 := by rw [agr_K Y4.1.1]; exact Pb.2.1
        have hr04 : hR M4 pl 0 = p := by rw [agr_R Y4.1.1]; exact Pb.2.2.1
        have hr14 : hR M4 pl 1 = t := by rw [agr_R Y4.1.1]; exact Pb.2.2.2.1
        simp only [oN]
        rw [k51_74, if_neg (by decide), k51_77 hpl4 (by rw [hr04]; omega) (by rw [hr14]; omega), hr04, hr14, k51_86 (by rw [agr_K Y4.1.1]; exact Bb.2.2.2.1.2.1)]
        refine pap_hours Bb Y4 PS hN ?_
        intro M5 Y5
        have HW := papW_sm (L := L) (P := P') (N := N) Bb.1.2.2.2.1
        have HO5 := Pap_hall Bb Y5 PS HW
        have CC5 := mid_hall Bb Y5.1
        have hpl5 : (hK M5 pl).1 = 4 := by rw [agr_K Y5.1.1]; exact Pb.2.1
        have hr05 : hR M5 pl 0 = p := by rw [agr_R Y5.1.1]; exact Pb.2.2.1
        have hr15 : hR M5 pl 1 = t := by rw [agr_R Y5.1.1]; exact Pb.2.2.2.1
        simp only [oZ]
        rw [k51_89 hpl5 (by rw [hr05]; omega) (by rw [hr15]; omega), hr05, hr15, k51_97 (by rw [agr_K Y5.1.1]; exact Bb.2.2.2.1.2.1)]
        refine Night_worthOfAll CC5.2.2.1 HO5.1 HO5.2.1 HO5.2.2.2.1 HO5.2.2.2.2.1 Bb.2.2.2.2.2.1 Bb.2.2.2.2.2.2.2.1 ?_
        intro M6 b6
        have eA : worthA L M5 t n = wgP L Mb h n N P' := by
          have r1 : hI M5 (t + 1) = hI Mb (h + 1) := by rw [agr_I Y5.1.1 (by unfold pE nF; simp; omega), Bb.2.2.1.1 1 (by omega) (by omega)]
          have r2 : hI M5 (t + 2) = hI Mb (h + 2) := by rw [agr_I Y5.1.1 (by unfold pE nF; simp; omega), Bb.2.2.1.1 2 (by omega) (by omega)]
          have r7 : hI M5 t 7 = hI Mb h 7 := by rw [Y5.1.2.1 7 (by omega), Bb.2.2.1.2.1 7 (by omega) (by omega)]
          unfold worthA wgP worthF
          rw [r1, r2, r7, Y5.2.2.1, Y5.2.2.2]
        have m6 : Mid Mb M6 t p pl := by
          refine ⟨agr_trans Y5.1.1 (agr_mono b6 ?_), ?_, ?_, ?_⟩
          · intro x q
            unfold nE at q
            unfold pE nF
            simp at q ⊢
            omega
          · intro k hk
            rw [agr_I b6 (nE_not (by omega))]; exact Y5.1.2.1 k hk
          · intro k hk
            rw [agr_I b6 (nE_not (by omega))]; exact Y5.1.2.2.1 k hk
          · intro k hk
            rw [agr_I b6 (nE_not (by omega))]; exact Y5.1.2.2.2 k hk
        have hpl6 : (hK M6 pl).1 = 4 := by rw [agr_K m6.1]; exact Pb.2.1
        have f3 : hI M6 pl 3 = s.1 := by rw [agr_I m6.1 (by unfold pE nF; simp; omega), q3]
        have eS : hqStep L Mb h n N c a r s = if s.1 = -1 ∨ wgP L Mb h n N P' < s.1 then (wgP L Mb h n N P', nI r) else s := by
          unfold hqStep
          rw [hg]
        rw [eS] at hs2
        simp only [oN]
        rw [k51_100 hpl6, f3, eA, k51_107]
        have upd : (s.1 = -1 ∨ wgP L Mb h n N P' < s.1) → Wp none d 51 119 [(0, .ref pl), (1, .ref h), (2, .int (nI N)), (3, .int (nI c)), (4, .int (nI (10 ^ c))), (5, .int (nI r)), (6, .int (wgP L Mb h n N P'))] [] M6 Q := by
          intro hu
          rw [if_pos hu] at hs2
          rw [k51_119 hpl6, k51_125 (M := sI M6 pl 3 (wgP L Mb h n N P')) hpl6]
          rw [ec] at hs2
          refine nxt (wgP L Mb h n N P', nI r) (sI (sI Mb pl 3 (wgP L Mb h n N P')) pl 4 (nI r)) _ ?_ ?_ ?_ ?_ ?_ hs2
          · exact agr_trans q1 (agr_trans (agr_sI (by simp)) (agr_sI (by simp)))
          · intro i hi
            rw [hI_sI_a (by omega), hI_sI_a (by omega)]; exact q2 i hi
          · rw [hI_sI_k (by decide), hI_sI_s]
          · rw [hI_sI_s]
          · refine ⟨agr_both (agr_both m6.1 _ _ _) _ _ _, ?_, ?_, ?_⟩
            · intro k hk
              rw [hI_sI_a (by omega), hI_sI_a (by omega), hI_sI_a (by omega), hI_sI_a (by omega)]
              exact m6.2.1 k hk
            · intro k hk
              rw [hI_sI_a (by omega), hI_sI_a (by omega)]; exact m6.2.2.1 k hk
            · intro k hk
              rw [hI_sI_a (by omega), hI_sI_a (by omega)]; exact m6.2.2.2 k hk
        by_cases c1 : s.1 = -1
        · rw [if_pos c1]
          exact upd (Or.inl c1)
        · rw [if_neg c1, k51_110 hpl6, f3, k51_116]
          by_cases c2 : wgP L Mb h n N P' < s.1
          · rw [if_neg (show ¬ s.1 ≤ wgP L Mb h n N P' by rw [fa_le]; rw [fa_lt] at c2; omega)]
            exact upd (Or.inr c2)
          · rw [if_pos (show s.1 ≤ wgP L Mb h n N P' by rw [fa_le]; rw [fa_lt] at c2; omega)]
            rw [if_neg (fun z => z.elim c1 c2), ec] at hs2
            show Wp none d 51 131 [(0, .ref pl), (1, .ref h), (2, .int (nI N)), (3, .int (nI c)), (4, .int (nI (10 ^ c))), (5, .int (nI r))] [] M6 Q
            exact nxt s Mb M6 q1 q2 q3 q4 m6 hs2
      · intro M4 hg m4
        have eS : hqStep L Mb h n N c a r s = s := by
          unfold hqStep
          rw [hg]
        rw [eS, ec] at hs2
        simp only [oN]
        rw [k51_74, if_pos rfl]
        exact nxt s Mb M4 q1 q2 q3 q4 m4 hs2
  have bs2 : agr [pl, pl + 1] M0 (sI (sI M1 pl 3 (-1)) pl 4 (nI 0)) := agr_trans bs (agr_trans (agr_sI (by simp)) (agr_sI (by simp)))
  refine key (10 ^ c) 0 (-1, 0) (sI (sI M1 pl 3 (-1)) pl 4 (nI 0)) _ (by omega) bs2 ?_ ?_ ?_ (Mid_0 (Bas_agr B0 bs2)) rfl
  · intro i hi
    rw [hI_sI_a (by omega), hI_sI_a (by omega)]; exact ha i hi
  · rw [hI_sI_k (by decide), hI_sI_s]
  · rw [hI_sI_s]; rfl
