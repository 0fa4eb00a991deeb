variable {d : Nat} {M : hp} {Q : Option Value → hp → Prop}
/-- pegs without the hats of a set -/
def offF (P : Nat → Int32) (n : Nat) (s : Int32) : Nat → Int32 := fun i => if i < n ∧ (s >>> (nI i &&& 31)) &&& 1 = 1 then -1 else P i
theorem pegS_offF {P : Nat → Int32} {n : Nat} {s : Int32} (h : PegS P n) : PegS (offF P n s) n := by
  refine ⟨?_, ?_⟩
  · intro i hi
    unfold offF
    split
    · exact Or.inl rfl
    · exact h.1 i hi
  · intro a b ha hb e hn
    unfold offF at e hn
    by_cases c : a < n ∧ (s >>> (nI a &&& 31)) &&& 1 = 1
    · rw [if_pos c] at hn; exact absurd rfl hn
    · by_cases c2 : b < n ∧ (s >>> (nI b &&& 31)) &&& 1 = 1
      · rw [if_neg c, if_pos c2] at e
        rw [if_neg c] at hn
        exact absurd e hn
      · rw [if_neg c, if_neg c2] at e
        rw [if_neg c] at hn
        exact h.2 a b ha hb e hn
theorem pap_take {M0 M1 : hp} {h t p pl n : Nat} {P W : Nat → Int32} {hr s : Int32} (X : Pap M0 M1 h t p pl P W hr) (hn : n ≤ 7) : Pap M0 (sIs M1 (t + 3) 0 n (fun i => if (s >>> (nI i &&& 31)) &&& 1 = 1 then -1 else hI M1 (t + 3) i)) h t p pl (offF P n s) W hr := by
  obtain ⟨⟨X1, X2, X3, X4⟩, X5, X6, X7⟩ := X
  refine ⟨⟨agr_trans X1 (agr_sIs (by unfold pE; simp)), ?_, ?_, ?_⟩, ?_, ?_, ?_⟩
  · intro k hk
    rw [hI_sIs_a (by omega)]; exact X2 k hk
  · intro k hk
    rw [hI_sIs_k (by omega)]; exact X3 k hk
  · intro k hk
    rw [hI_sIs_a (by omega)]; exact X4 k hk
  · funext k
    unfold offF
    rw [hI_sIs]
    by_cases c : k < n
    · rw [if_pos ⟨rfl, by omega, by omega⟩, Nat.sub_zero, X5]
      by_cases c2 : (s >>> (nI k &&& 31)) &&& 1 = 1
      · rw [if_pos c2, if_pos ⟨c, c2⟩]
      · rw [if_neg c2, if_neg (fun q => c2 q.2)]
    · rw [if_neg (by omega), if_neg (fun q => c q.1), X5]
  · funext k
    rw [hI_sIs_a (by omega), X6]
  · rw [hI_sIs_a (by omega), X7]
def othF (P : Nat → Int32) (n j : Nat) : Int32 := hungF P n &&& (((1 : Int32) <<< (nI j &&& 31)) ^^^ (-1))
def ctStep (L : Law) (M : hp) (h n j : Nat) (th : Int32) (s : Nat) (b : Int32) : Int32 :=
  if nI s &&& (othF (hI M (h + 3)) n j ^^^ (-1)) = 0 ∧ mny (nI s) < mny b then (if (papW L M h n (offF (hI M (h + 3)) n (nI s)) 60 j >>> (th &&& 31)) &&& 1 = 1 then b else nI s) else b
def ctF (L : Law) (M : hp) (h n j : Nat) (th : Int32) (O : Nat) : Int32 := fo (ctStep L M h n j th) 0 O (nI O)
theorem Planner_fewestOff {h t p pl n j O : Nat} {th : Int32} {L : Law} (X : Pln M h t p pl n L) (hj : j < n) (hO : othF (hI M (h + 3)) n j = nI O) (hO2 : O < 256)
    (hQ : ∀ M', agq (plE p t pl) [t + 5] M M' → HallS M' t → HallZ M' t → Q (some (.int (ctF L M h n j th O))) M') : Wp none d 50 0 [(0, .ref pl), (1, .ref h), (2, .int (nI j)), (3, .int th)] [] M Q := by
  have X5 := X.2.2.2.2.1
  have n7 := X.1.2.1.2
  have p64 := X.2.2.2.1.1
  have t64 := X.2.1.1
  have hp0 := X.1.2.2.1
  rw [k50_0 X5.2.1 (by rw [X5.2.2.2.1]; omega), X5.2.2.2.1, k50_5 X.2.1.2.1]
  refine start_ok X ?_
  intro M0 B a1 P0 eh
  have ew : ∀ P, papW L M0 h n P 60 = papW L M h n P 60 := by
    intro P
    have e0 := eh 0 (by omega)
    rw [Nat.add_zero] at e0
    unfold papW
    rw [eh 1 (by omega), eh 2 (by omega), eh 4 (by omega), e0]
  have e3 := eh 3 (by omega)
  simp only [oZ]
  rw [k50_8, k50_9 B.1.1.2.1, Hall_hungSet B.1.1 B.1.2.1, e3]
  simp only [oN]
  rw [k50_12]
  have key : ∀ (k s : Nat) (b f : Int32) (M1 : hp), s + k = O → sm b → Mid M0 M1 t p pl → fo (ctStep L M h n j th) s k b = ctF L M h n j th O → Wp none d 50 27 [(0, .ref pl), (1, .ref h), (2, .int (nI j)), (3, .int th), (4, .int (nI O)), (5, .int b), (6, .int (nI s))] [] M1 Q := by
    intro k
    induction k with
    | zero =>
      intro s b f M1 e hb m1 hs
      have : s = O := by omega
      subst this
      have hs2 : b = ctF L M h n j th s := hs
      rw [k50_27, k50_31, if_pos (by rw [n_le (by omega) (by omega)]; exact Nat.le_refl s), k50_126, hs2]
      have f := fin_Z B m1
      exact hQ M1 (fin_agq a1 m1) f.1 f.2
    | succ k ih =>
      intro s b f M1 e hb m1 hs
      have hs2 : fo (ctStep L M h n j th) (s + 1) k (ctStep L M h n j th s b) = ctF L M h n j th O := hs
      have hsm : sm (nI s) := ⟨s, by omega, rfl⟩
      have hpl : (hK M1 pl).1 = 4 := by rw [agr_K m1.1]; exact P0.2.1
      have hr1 : hR M1 pl 1 = t := by rw [agr_R m1.1]; exact P0.2.2.2.1
      rw [k50_27, k50_31, if_neg (by rw [n_le (by omega) (by omega)]; omega), k50_34, k50_36, bitCount_ok hsm]
      simp only [oN]
      rw [k50_39, k50_41, bitCount_ok hb]
      simp only [oM]
      rw [k50_44]
      have nxt : ∀ (b z : Int32) (M1 : hp), sm b → Mid M0 M1 t p pl → fo (ctStep L M h n j th) (s + 1) k b = ctF L M h n j th O → Wp none d 50 120 [(0, .ref pl), (1, .ref h), (2, .int (nI j)), (3, .int th), (4, .int (nI O)), (5, .int b), (6, .int (nI s)), (7, .int z)] [] M1 Q := by
        intro b z M1 hb m2 hs3
        rw [k50_120, nI_1]
        exact ih (s + 1) b z M1 (by omega) hb m2 hs3
      have at52 : ∀ z : Int32, (z = 0 ∨ z = 1) → (z = 1 ↔ mny (nI s) < mny b) → Wp none d 50 52 [(0, .ref pl), (1, .ref h), (2, .int (nI j)), (3, .int th), (4, .int (nI O)), (5, .int b), (6, .int (nI s))] [.int z] M1 Q := by
        intro z z01 hz
        rw [k50_52, k50_61]
        by_cases c1 : nI s &&& (nI O ^^^ (-1)) = 0
        · rw [if_neg (fun q => q c1), k50_64, k50_66]
          by_cases c2 : z = 0
          · have c3 : ¬ mny (nI s) < mny b := fun q => by rw [hz.mpr q] at c2; exact absurd c2 (by decide)
            rw [if_pos c2]
            have eS : ctStep L M h n j th s b = b := by unfold ctStep; rw [if_neg (fun q => c3 q.2)]
            rw [eS] at hs2
            exact nxt _ _ _ hb m1 hs2
          · have c3 : mny (nI s) < mny b := hz.mp (z01.resolve_left c2)
            have eS : ctStep L M h n j th s b = if (papW L M h n (offF (hI M (h + 3)) n (nI s)) 60 j >>> (th &&& 31)) &&& 1 = 1 then b else nI s := by
              unfold ctStep
              rw [hO, if_pos ⟨c1, c3⟩]
            rw [eS] at hs2
            rw [if_neg c2, k50_69 hpl (by rw [hr1]; omega), hr1, k50_74 (by rw [agr_K m1.1]; exact B.2.1.1.2.1)]
            refine mv_ok B m1 ?_
            intro M2 Y2
            have hpl2 : (hK M2 pl).1 = 4 := by rw [agr_K Y2.1.1]; exact P0.2.1
            have hr12 : hR M2 pl 1 = t := by rw [agr_R Y2.1.1]; exact P0.2.2.2.1
            have HO2 := Pap_hall B Y2 B.1.2.2.1 B.1.2.2.2.1
            simp only [oZ]
            rw [k50_77 hpl2 (by rw [hr12]; omega), hr12, k50_83 HO2.1.2.1, takeAll_loop HO2.1 HO2.2.1]
            simp only [oZ]
            have Y3 := pap_take (s := nI s) (n := n) Y2 n7
            rw [e3] at Y3
            generalize sIs M2 (t + 3) 0 n (fun i => if (nI s >>> (nI i &&& 31)) &&& 1 = 1 then -1 else hI M2 (t + 3) i) = M3 at *
            have hpl3 : (hK M3 pl).1 = 4 := by rw [agr_K Y3.1.1]; exact P0.2.1
            have hr03 : hR M3 pl 0 = p := by rw [agr_R Y3.1.1]; exact P0.2.2.1
            have hr13 : hR M3 pl 1 = t := by rw [agr_R Y3.1.1]; exact P0.2.2.2.1
            rw [k50_86 hpl3 (by rw [hr03]; omega) (by rw [hr13]; omega), hr03, hr13, k50_96 (by rw [agr_K Y3.1.1]; exact B.2.2.2.1.2.1), show (60 : Int32) = nI 60 from rfl]
            refine pap_hours B Y3 (pegS_offF hp0) (by omega) ?_
            intro M4 Y4
            rw [ew] at Y4
            have hpl4 : (hK M4 pl).1 = 4 := by rw [agr_K Y4.1.1]; exact P0.2.1
            have hr14 : hR M4 pl 1 = t := by rw [agr_R Y4.1.1]; exact P0.2.2.2.1
            have HS4 := (mid_hall B Y4.1).2.2.2
            simp only [oZ]
            rw [k50_99 hpl4 (by rw [hr14]; omega), hr14, k50_105 HS4.2.1, Hall_knowsIt HS4 (show j < 7 by omega), Y4.2.2.1]
            simp only [oN]
            rw [k50_108]
            simp only [bz_eq0]
            by_cases c4 : (papW L M h n (offF (hI M (h + 3)) n (nI s)) 60 j >>> (th &&& 31)) &&& 1 = 1
            · rw [if_pos c4] at hs2
              rw [if_neg (fun q => q c4), k50_111, k50_118]
              exact nxt _ _ _ hb Y4.1 hs2
            · rw [if_neg c4] at hs2
              rw [if_pos c4, k50_116, k50_118]
              exact nxt _ _ _ hsm Y4.1 hs2
        · rw [if_pos c1]
          have eS : ctStep L M h n j th s b = b := by unfold ctStep; rw [hO, if_neg (fun q => c1 q.1)]
          rw [eS] at hs2
          exact nxt _ _ _ hb m1 hs2
      by_cases c0 : mny b ≤ mny (nI s)
      · rw [if_pos c0, k50_51]
        refine at52 0 (Or.inl rfl) ⟨fun q => absurd q (by decide), fun q => ?_⟩
        rw [fa_lt] at q
        rw [fa_le] at c0
        omega
      · rw [if_neg c0, k50_47]
        refine at52 1 (Or.inr rfl) ⟨fun _ => ?_, fun _ => rfl⟩
        rw [fa_le] at c0
        rw [fa_lt]
        omega
  show Wp none d 50 27 [(0, .ref pl), (1, .ref h), (2, .int (nI j)), (3, .int th), (4, .int (othF (hI M (h + 3)) n j)), (5, .int (othF (hI M (h + 3)) n j)), (6, .int 0)] [] M0 Q
  rw [hO]
  exact key O 0 (nI O) 0 M0 (by omega) ⟨O, hO2, rfl⟩ (Mid_0 B) rfl
