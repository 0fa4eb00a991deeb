variable {d : Nat} {M : hp} {Q : Option Value → hp → Prop}
theorem n_addo (a n : Nat) : nI a + (OfNat.ofNat n : Int32) = nI (a + (OfNat.ofNat n : Nat)) := n_addl a n
def PastS (M : hp) (p : Nat) : Prop := 64 ≤ p ∧ (hK M p).1 = 3 ∧ hR M p 0 = p + 1 ∧ hK M (p + 1) = (20, 256)
theorem Past_clear {p : Nat} (H : PastS M p) : Wp none d 44 0 [(0, .ref p)] [] M Q = Q none (sI M p 2 0) := by
  rw [k44_0 H.2.1]
theorem Past_copy {p q : Nat} (H : PastS M p) (H2 : PastS M q) (hpq : p + 1 < q ∨ q + 1 < p) : Wp none d 45 0 [(0, .ref p), (1, .ref q)] [] M Q = Q none (sI (sI (sIs M (p + 1) 0 256 (hI M (q + 1))) p 1 (hI M q 1)) p 2 (hI M q 2)) := by
  have p64 := H.1
  have q64 := H2.1
  have e1 : ∀ j, hI (sIs M (p + 1) 0 256 (hI M (q + 1))) q j = hI M q j := fun j => hI_sIs_a (by omega)
  rw [k45_0 H2.2.1 (by rw [H2.2.2.1]; omega) H.2.1 (by rw [H.2.2.1]; omega), H2.2.2.1, H.2.2.1, k45_8, T_copyCells H2.2.2.2 H.2.2.2 (by omega) (by omega) (by omega) (by omega) (by omega)]
  simp only [oZ]
  rw [k45_11 (M := sIs M (p + 1) 0 (min 256 256) (hI M (q + 1))) H2.2.1 H.2.1, k45_19 (M := sI (sIs M (p + 1) 0 (min 256 256) (hI M (q + 1))) p 1 _) H2.2.1 H.2.1, hI_sI_a (by omega)]
  have e2 : min 256 256 = 256 := rfl
  rw [e2, e1, e1]
/-- what is kept of a hall -/
def snap (P W : Nat → Int32) (hr kind : Int32) : Nat → Int32 := fun k => if k < 7 then P k else if k < 14 then W (k - 7) else if k = 14 then hr else kind
theorem at_256 {a : Nat} (hk : hK M a = (20, 256)) (ha : ¬ a = 1) {i : Nat} (hi : i < 256) : Wp none d 145 0 [(0, .ref a), (1, .int (nI i))] [] M Q = Q (some (.int (hI M a i))) M := by
  rw [T_at hk ha (by omega), gI_n hi (by omega)]
theorem put_256 {a : Nat} (hk : hK M a = (20, 256)) (ha : ¬ a = 1) {i : Nat} (hi : i < 256) {v : Int32} : Wp none d 147 0 [(0, .ref a), (1, .int (nI i)), (2, .int v)] [] M Q = Q none (sI M a i v) := by
  rw [T_put hk ha (by omega), pI_n hi (by omega)]
theorem Past_keep {p h x c : Nat} {kind : Int32} (H : PastS M p) (HS : HallS M h) (hx : hI M p 1 = nI x) (hx16 : x < 16) (hc : hI M p 2 = nI c) (hc16 : c ≤ 16) (hph : p + 1 < h ∨ h + 5 < p)
    (hQ : ∀ M', agr [p, p + 1] M M' → (∀ k, hI M' (p + 1) k = if 16 * x ≤ k ∧ k < 16 * x + 16 then snap (hI M (h + 3)) (hI M (h + 4)) (hI M h 5) kind (k - 16 * x) else hI M (p + 1) k) → hI M' p 1 = nI ((x + 1) % 16) → hI M' p 2 = nI (min (c + 1) 16) → Q none M') : Wp none d 46 0 [(0, .ref p), (1, .int kind), (2, .ref h)] [] M Q := by
  have p64 := H.1
  have h64 := HS.1
  have nn : ∀ a, ¬ a = p → ¬ a = p + 1 → ([p, p + 1] : List Nat).contains a = false := fun a q1 q2 => by simp [q1, q2]
  have key : ∀ (k i : Nat) (M1 : hp), i + k = 7 → agr [p, p + 1] M M1 → hI M1 p = hI M p → (∀ k, hI M1 (p + 1) k = if 16 * x ≤ k ∧ k < 16 * x + i then hI M (h + 3) (k - 16 * x) else if 16 * x + 7 ≤ k ∧ k < 16 * x + 7 + i then hI M (h + 4) (k - 16 * x - 7) else hI M (p + 1) k) → Wp none d 46 11 [(0, .ref p), (1, .int kind), (2, .ref h), (3, .int (nI (16 * x))), (4, .int (nI i))] [] M1 Q := by
    intro k
    induction k with
    | zero =>
      intro i M1 e a1 hp hk
      have : i = 7 := by omega
      subst this
      have kp : (hK M1 p).1 = 3 := by rw [agr_K a1]; exact H.2.1
      have kc : hK M1 (p + 1) = (20, 256) := by rw [agr_K a1]; exact H.2.2.2
      have rp : hR M1 p 0 = p + 1 := by rw [agr_R a1]; exact H.2.2.1
      rw [k46_11, k46_15, if_pos (by decide), k46_67 kp (by rw [rp]; omega) (by rw [agr_K a1]; exact HS.2.1), rp, n_addo, k46_79, put_256 kc (by omega) (by omega)]
      simp only [oZ]
      rw [k46_82 (M := sI M1 (p + 1) (16 * x + 14) _) kp (show ¬ hR M1 p 0 = 0 by rw [rp]; omega), hR_sI, rp, n_addo, k46_91, put_256 (M := sI M1 (p + 1) (16 * x + 14) _) kc (by omega) (by omega)]
      simp only [oZ]
      have e1 : ∀ k, hI (sI (sI M1 (p + 1) (16 * x + 14) (hI M1 h 5)) (p + 1) (16 * x + 15) kind) p k = hI M p k := fun k => by rw [hI_sI_a (by omega), hI_sI_a (by omega), hp]
      have e2 : ∀ k, hI (sI (sI M1 (p + 1) (16 * x + 14) (hI M1 h 5)) (p + 1) (16 * x + 15) kind) (p + 1) k = if 16 * x ≤ k ∧ k < 16 * x + 16 then snap (hI M (h + 3)) (hI M (h + 4)) (hI M h 5) kind (k - 16 * x) else hI M (p + 1) k := by
        intro k
        rw [hI_sI, hI_sI, hk, agr_I a1 (nn h (by omega) (by omega))]
        unfold snap
        by_cases c15 : k = 16 * x + 15
        · rw [if_pos ⟨rfl, c15⟩, if_pos (by omega), if_neg (by omega), if_neg (by omega), if_neg (by omega)]
        · rw [if_neg (fun q => c15 q.2)]
          by_cases c14 : k = 16 * x + 14
          · rw [if_pos ⟨rfl, c14⟩, if_pos (by omega), if_neg (by omega), if_neg (by omega), if_pos (by omega)]
          · rw [if_neg (fun q => c14 q.2)]
            by_cases c7 : 16 * x ≤ k ∧ k < 16 * x + 7
            · rw [if_pos c7, if_pos (by omega), if_pos (by omega)]
            · rw [if_neg c7]
              by_cases d7 : 16 * x + 7 ≤ k ∧ k < 16 * x + 7 + 7
              · rw [if_pos d7, if_pos (by omega), if_neg (by omega), if_pos (by omega)]
              · rw [if_neg d7, if_neg (by omega)]
      have a2 : agr [p, p + 1] M (sI (sI M1 (p + 1) (16 * x + 14) (hI M1 h 5)) (p + 1) (16 * x + 15) kind) := agr_trans a1 (agr_trans (agr_sI (by simp)) (agr_sI (by simp)))
      generalize sI (sI M1 (p + 1) (16 * x + 14) (hI M1 h 5)) (p + 1) (16 * x + 15) kind = M2 at *
      have kp2 : (hK M2 p).1 = 3 := by rw [agr_K a2]; exact H.2.1
      rw [k46_94 kp2, k46_107 (M := sI M2 p 1 _) kp2, e1, hx, nI_1, n_modl (n := 16) (by omega) (by omega), hI_sI_k (by decide), e1, hc, nI_1]
      have e3 : (if (16 : Int32) < nI (c + 1) then (16 : Int32) else nI (c + 1)) = nI (min (c + 1) 16) := by
        by_cases z : c = 16
        · subst z; decide
        · rw [if_neg (show ¬ (16 : Int32) < nI (c + 1) by
            show ¬ nI 16 < nI (c + 1)
            rw [n_lt (by omega) (by omega)]
            omega), Nat.min_eq_left (by omega)]
      rw [e3]
      refine hQ _ (agr_trans a2 (agr_trans (agr_sI (by simp)) (agr_sI (by simp)))) ?_ ?_ ?_
      · intro k
        rw [hI_sI_a (by omega), hI_sI_a (by omega)]
        exact e2 k
      · rw [hI_sI_k (by decide), hI_sI_s]
      · rw [hI_sI_s]
    | succ k ih =>
      intro i M1 e a1 hp hk
      have kp : (hK M1 p).1 = 3 := by rw [agr_K a1]; exact H.2.1
      have kc : hK M1 (p + 1) = (20, 256) := by rw [agr_K a1]; exact H.2.2.2
      have rp : hR M1 p 0 = p + 1 := by rw [agr_R a1]; exact H.2.2.1
      have HS1 := HallS_agr a1 HS
      have c : ¬ (7 : Int32) ≤ nI i := by
        show ¬ nI 7 ≤ nI i
        rw [n_le (by omega) (by omega)]
        omega
      rw [k46_11, k46_15, if_neg c, k46_18 kp (by rw [rp]; omega) HS1.2.1 (by rw [HS1.2.2.2.2.1]; omega), HS1.2.2.2.2.1, rp, nI_add, k46_32, at_P HS1 (by omega)]
      simp only [oM]
      rw [k46_35, put_256 kc (by omega) (by omega)]
      simp only [oZ]
      have a2 : agr [p, p + 1] M (sI M1 (p + 1) (16 * x + i) (hI M1 (h + 3) i)) := agr_trans a1 (agr_sI (by simp))
      have HS2 := HallS_agr a2 HS
      rw [agr_I a1 (nn (h + 3) (by omega) (by omega))] at *
      rw [k46_38 (by rw [agr_K a2]; exact H.2.1) (by rw [agr_R a2, H.2.2.1]; omega) HS2.2.1 (by rw [HS2.2.2.2.2.2.1]; omega), HS2.2.2.2.2.2.1, agr_R a2, H.2.2.1, n_addo, nI_add, k46_55, at_W HS2 (by omega)]
      simp only [oM]
      rw [k46_58, put_256 (by rw [agr_K a2]; exact H.2.2.2) (by omega) (by omega)]
      simp only [oZ]
      rw [k46_61, nI_1, agr_I a2 (nn (h + 4) (by omega) (by omega))]
      refine ih (i + 1) _ (by omega) (agr_trans a2 (agr_sI (by simp))) ?_ ?_
      · funext k
        rw [hI_sI_a (by omega), hI_sI_a (by omega), hp]
      · intro k
        rw [hI_sI, hI_sI, hk]
        by_cases z1 : k = 16 * x + 7 + i
        · rw [if_pos ⟨rfl, z1⟩, if_neg (by omega), if_pos (by omega)]
          congr 1
          omega
        · rw [if_neg (fun q => z1 q.2)]
          by_cases z2 : k = 16 * x + i
          · rw [if_pos ⟨rfl, z2⟩, if_pos (by omega)]
            congr 1
            omega
          · rw [if_neg (fun q => z2 q.2)]
            by_cases y1 : 16 * x ≤ k ∧ k < 16 * x + i
            · rw [if_pos y1, if_pos (by omega)]
            · rw [if_neg y1]
              by_cases y2 : 16 * x + 7 ≤ k ∧ k < 16 * x + 7 + i
              · rw [if_pos y2, if_neg (show ¬ (16 * x ≤ k ∧ k < 16 * x + (i + 1)) by omega), if_pos (show 16 * x + 7 ≤ k ∧ k < 16 * x + 7 + (i + 1) by omega)]
              · rw [if_neg y2, if_neg (show ¬ (16 * x ≤ k ∧ k < 16 * x + (i + 1)) by omega), if_neg (show ¬ (16 * x + 7 ≤ k ∧ k < 16 * x + 7 + (i + 1)) by omega)]
  rw [k46_0 H.2.1, hx, n_mull, Nat.mul_comm x 16]
  refine key 7 0 M (by omega) (agr_refl _ _) rfl ?_
  intro k
  rw [if_neg (by omega), if_neg (by omega)]
theorem Past_goBack_n {p h : Nat} (H : PastS M p) (hc : hI M p 2 = 0) : Wp none d 47 0 [(0, .ref p), (1, .ref h)] [] M Q = Q (some (.int (-1))) M := by
  rw [k47_0 H.2.1, hc, k47_4, if_neg (by decide), k47_7]
theorem Past_goBack {p h x c : Nat} (H : PastS M p) (HS : HallS M h) (hx : hI M p 1 = nI x) (hx16 : x < 16) (hc : hI M p 2 = nI (c + 1)) (hc16 : c < 16) (hph : p + 1 < h ∨ h + 5 < p)
    (hQ : ∀ M', agr [p, h, h + 3, h + 4] M M' → hI M' p 1 = nI ((x + 15) % 16) → hI M' p 2 = nI c → (∀ k, hI M' (h + 3) k = if k < 7 then hI M (p + 1) (16 * ((x + 15) % 16) + k) else hI M (h + 3) k) → (∀ k, hI M' (h + 4) k = if k < 7 then hI M (p + 1) (16 * ((x + 15) % 16) + 7 + k) else hI M (h + 4) k) → (∀ k, hI M' h k = if k = 5 then hI M (p + 1) (16 * ((x + 15) % 16) + 14) else hI M h k) → Q (some (.int (hI M (p + 1) (16 * ((x + 15) % 16) + 15)))) M') : Wp none d 47 0 [(0, .ref p), (1, .ref h)] [] M Q := by
  have p64 := H.1
  have h64 := HS.1
  have y16 : (x + 15) % 16 < 16 := Nat.mod_lt _ (by omega)
  have ey : nI x + 16 - 1 = nI (x + 15) := by
    rw [n_addo, n_subl (n := 1) (by omega), show x + 16 - 1 = x + 15 by omega]
  have nn : ∀ a, ¬ a = p → ¬ a = h → ¬ a = h + 3 → ¬ a = h + 4 → ([p, h, h + 3, h + 4] : List Nat).contains a = false := fun a q1 q2 q3 q4 => by simp [q1, q2, q3, q4]
  rw [k47_0 H.2.1, hc, k47_4, if_pos (show (0 : Int32) < nI (c + 1) by show nI 0 < nI (c + 1); rw [n_lt (by omega) (by omega)]; omega), k47_9 H.2.1, hc, nI_pred, k47_19 (M := sI M p 2 (nI c)) H.2.1, hI_sI_k (by decide), hx, ey, n_modl (n := 16) (by omega) (by omega)]
  have b1 : agr [p, h, h + 3, h + 4] M (sI (sI M p 2 (nI c)) p 1 (nI ((x + 15) % 16))) := agr_trans (agr_sI (by simp)) (agr_sI (by simp))
  have b2 : hI (sI (sI M p 2 (nI c)) p 1 (nI ((x + 15) % 16))) p 1 = nI ((x + 15) % 16) := hI_sI_s _ _ _ _
  have b3 : hI (sI (sI M p 2 (nI c)) p 1 (nI ((x + 15) % 16))) p 2 = nI c := by rw [hI_sI_k (by decide), hI_sI_s]
  have b4 : ∀ a, ¬ a = p → hI (sI (sI M p 2 (nI c)) p 1 (nI ((x + 15) % 16))) a = hI M a := fun a q => by funext k; rw [hI_sI_a q, hI_sI_a q]
  generalize sI (sI M p 2 (nI c)) p 1 (nI ((x + 15) % 16)) = M0 at *
  generalize (x + 15) % 16 = y at *
  rw [k47_35 (by rw [agr_K b1]; exact H.2.1), b2, n_mull, Nat.mul_comm y 16]
  have key : ∀ (k i : Nat) (M1 : hp), i + k = 7 → agr [p, h, h + 3, h + 4] M M1 → hI M1 p = hI M0 p → (hI M1 h = hI M h) → (∀ k, hI M1 (h + 3) k = if k < i then hI M (p + 1) (16 * y + k) else hI M (h + 3) k) → (∀ k, hI M1 (h + 4) k = if k < i then hI M (p + 1) (16 * y + 7 + k) else hI M (h + 4) k) → Wp none d 47 45 [(0, .ref p), (1, .ref h), (2, .int (nI (16 * y))), (3, .int (nI i))] [] M1 Q := by
    intro k
    induction k with
    | zero =>
      intro i M1 e a1 hp hh h3 h4
      have : i = 7 := by omega
      subst this
      have kp : (hK M1 p).1 = 3 := by rw [agr_K a1]; exact H.2.1
      have kc : hK M1 (p + 1) = (20, 256) := by rw [agr_K a1]; exact H.2.2.2
      have rp : hR M1 p 0 = p + 1 := by rw [agr_R a1]; exact H.2.2.1
      rw [k47_45, k47_48, if_pos (by decide), k47_96 kp (by rw [rp]; omega), rp, n_addo, k47_105, at_256 kc (by omega) (by omega)]
      simp only [oM]
      have ec : hI M1 (p + 1) = hI M (p + 1) := agr_I a1 (nn _ (by omega) (by omega) (by omega) (by omega))
      rw [ec, k47_108 (by rw [agr_K a1]; exact HS.2.1), k47_111 (M := sI M1 h 5 _) kp (show ¬ hR M1 p 0 = 0 by rw [rp]; omega), hR_sI, rp, n_addo, k47_119, at_256 (M := sI M1 h 5 _) kc (by omega) (by omega)]
      simp only [oN]
      rw [k47_122, hI_sI_a (by omega), ec]
      refine hQ _ (agr_trans a1 (agr_sI (by simp))) ?_ ?_ ?_ ?_ ?_
      · rw [hI_sI_a (by omega), hp, b2]
      · rw [hI_sI_a (by omega), hp, b3]
      · intro k
        rw [hI_sI_a (by omega)]; exact h3 k
      · intro k
        rw [hI_sI_a (by omega)]; exact h4 k
      · intro k
        rw [hI_sI, hh]
        by_cases z : k = 5
        · rw [if_pos ⟨rfl, z⟩, if_pos z]
        · rw [if_neg (fun q => z q.2), if_neg z]
    | succ k ih =>
      intro i M1 e a1 hp hh h3 h4
      have kp : (hK M1 p).1 = 3 := by rw [agr_K a1]; exact H.2.1
      have kc : hK M1 (p + 1) = (20, 256) := by rw [agr_K a1]; exact H.2.2.2
      have rp : hR M1 p 0 = p + 1 := by rw [agr_R a1]; exact H.2.2.1
      have HS1 := HallS_agr a1 HS
      have ec : hI M1 (p + 1) = hI M (p + 1) := agr_I a1 (nn _ (by omega) (by omega) (by omega) (by omega))
      have c : ¬ (7 : Int32) ≤ nI i := by
        show ¬ nI 7 ≤ nI i
        rw [n_le (by omega) (by omega)]
        omega
      rw [k47_45, k47_48, if_neg c, k47_51 HS1.2.1 (by rw [HS1.2.2.2.2.1]; omega) kp (by rw [rp]; omega), rp, HS1.2.2.2.2.1, nI_add, k47_63, at_256 kc (by omega) (by omega)]
      simp only [oM]
      rw [k47_66, put_P HS1 (by omega), ec]
      simp only [oZ]
      have a2 : agr [p, h, h + 3, h + 4] M (sI M1 (h + 3) i (hI M (p + 1) (16 * y + i))) := agr_trans a1 (agr_sI (by simp))
      have HS2 := HallS_agr a2 HS
      rw [k47_69 HS2.2.1 (by rw [HS2.2.2.2.2.2.1]; omega) (by rw [agr_K a2]; exact H.2.1) (by rw [agr_R a2, H.2.2.1]; omega), HS2.2.2.2.2.2.1, agr_R a2, H.2.2.1, n_addo, nI_add, k47_84, at_256 (by rw [agr_K a2]; exact H.2.2.2) (by omega) (by omega)]
      simp only [oM]
      rw [k47_87, put_W HS2 (by omega), agr_I a2 (nn (p + 1) (by omega) (by omega) (by omega) (by omega))]
      simp only [oZ]
      rw [k47_90, nI_1]
      refine ih (i + 1) _ (by omega) (agr_trans a2 (agr_sI (by simp))) ?_ ?_ ?_ ?_
      · funext k
        rw [hI_sI_a (by omega), hI_sI_a (by omega), hp]
      · funext k
        rw [hI_sI_a (by omega), hI_sI_a (by omega), hh]
      · intro k
        rw [hI_sI_a (by omega), hI_sI, h3]
        by_cases z : k = i
        · rw [if_pos ⟨rfl, z⟩, if_pos (by omega), z]
        · rw [if_neg (fun q => z q.2)]
          by_cases w : k < i
          · rw [if_pos w, if_pos (by omega)]
          · rw [if_neg w, if_neg (by omega)]
      · intro k
        rw [hI_sI, hI_sI_a (by omega), h4]
        by_cases z : k = i
        · rw [if_pos ⟨rfl, z⟩, if_pos (by omega), z]
        · rw [if_neg (fun q => z q.2)]
          by_cases w : k < i
          · rw [if_pos w, if_pos (by omega)]
          · rw [if_neg w, if_neg (by omega)]
  refine key 7 0 M0 (by omega) b1 rfl (b4 h (by omega)) ?_ ?_
  · intro k
    rw [b4 (h + 3) (by omega), if_neg (by omega)]
  · intro k
    rw [b4 (h + 4) (by omega), if_neg (by omega)]
