variable {d : Nat} {M : hp} {Q : Option Value → hp → Prop}
/-! what is kept where little changes; refusals -/
def nin (E L : List Nat) : Bool := L.all (fun x => !(E.contains x))
theorem nin_at {E L : List Nat} {x : Nat} (h : nin E L = true) (hx : L.contains x = true) : E.contains x = false := by
  unfold nin at h
  rw [List.all_eq_true] at h
  have := h x (by simpa using hx)
  simpa using this
def hallC (h : Nat) : List Nat := [h, h + 1, h + 2, h + 3, h + 4]
theorem hall_at {h r : Nat} (hr : r ≤ 4) : (hallC h).contains (h + r) = true := by
  have : r = 0 ∨ r = 1 ∨ r = 2 ∨ r = 3 ∨ r = 4 := by omega
  rcases this with rfl | rfl | rfl | rfl | rfl <;> simp [hallC]
theorem hall_agr {E : List Nat} {M2 : hp} {h : Nat} (a : agr E M M2) (n : nin E (hallC h) = true) : ∀ r, r ≤ 4 → hI M2 (h + r) = hI M (h + r) := fun r hr => agr_I a (nin_at n (hall_at hr))
theorem upk_agr {E : List Nat} {M2 : hp} (a : agr E M M2) (lo : low E) : upk M M2 := upk_agq (agq_of (B := []) a) lo (by intro x q; simp at q)
theorem Scr_E {E : List Nat} {M2 : hp} (Z : Scr M) (a : agr E M M2) (n : nin E (hallC 71 ++ hallC 77 ++ hallC 83 ++ hallC 90 ++ hallC 96) = true) : Scr M2 := by
  have g : ∀ h, (∀ r, r ≤ 4 → (hallC 71 ++ hallC 77 ++ hallC 83 ++ hallC 90 ++ hallC 96).contains (h + r) = true) → ∀ r, r ≤ 4 → hI M2 (h + r) = hI M (h + r) := fun h q r hr => agr_I a (nin_at n (q r hr))
  have r5 : ∀ r, r ≤ 4 → r = 0 ∨ r = 1 ∨ r = 2 ∨ r = 3 ∨ r = 4 := by omega
  obtain ⟨z1, z2, z3, z4, z5⟩ := Z
  exact ⟨HallZ_fr z1 (g 71 (fun r hr => by rcases r5 r hr with rfl | rfl | rfl | rfl | rfl <;> decide)), HallZ_fr z2 (g 77 (fun r hr => by rcases r5 r hr with rfl | rfl | rfl | rfl | rfl <;> decide)), HallZ_fr z3 (g 83 (fun r hr => by rcases r5 r hr with rfl | rfl | rfl | rfl | rfl <;> decide)), HallZ_fr z4 (g 90 (fun r hr => by rcases r5 r hr with rfl | rfl | rfl | rfl | rfl <;> decide)), HallZ_fr z5 (g 96 (fun r hr => by rcases r5 r hr with rfl | rfl | rfl | rfl | rfl <;> decide))⟩
theorem Img_E {E : List Nat} {M2 : hp} (I : Img M) (a : agr E M M2) (lo : low E) (n : nin E ([102, 130, 129] ++ hallC 90 ++ hallC 96) = true) : Img M2 := by
  have r5 : ∀ r, r ≤ 4 → r = 0 ∨ r = 1 ∨ r = 2 ∨ r = 3 ∨ r = 4 := by omega
  have g : ∀ h, (∀ r, r ≤ 4 → ([102, 130, 129] ++ hallC 90 ++ hallC 96).contains (h + r) = true) → ∀ r, r ≤ 4 → hI M2 (h + r) = hI M (h + r) := fun h q r hr => agr_I a (nin_at n (q r hr))
  have e1 : hI M2 102 = hI M 102 := agr_I a (nin_at n (by decide))
  have e2 : hI M2 130 = hI M 130 := agr_I a (nin_at n (by decide))
  have e3 : hI M2 129 = hI M 129 := agr_I a (nin_at n (by decide))
  exact ⟨Im1_fr I.1 (upk_agr a lo) e1 e2 e3 (g 90 (fun r hr => by rcases r5 r hr with rfl | rfl | rfl | rfl | rfl <;> decide)) (by rw [agr_R a]), Im1_fr I.2 (upk_agr a lo) e1 e2 e3 (g 96 (fun r hr => by rcases r5 r hr with rfl | rfl | rfl | rfl | rfl <;> decide)) (by rw [agr_R a])⟩
theorem Tpe_E {E : List Nat} {M2 : hp} (T : Tpe M) (a : agr E M M2) (n : nin E [107, 108, 135] = true) (e13 : hI M2 126 13 = hI M 126 13) : Tpe M2 := Tpe_fr T (agr_I a (nin_at n (by decide))) (agr_I a (nin_at n (by decide))) (agr_I a (nin_at n (by decide))) e13
theorem Drw_E {E : List Nat} {M2 : hp} (D : Drw M) (a : agr E M M2) (n : nin E [83, 153, 86, 87] = true) (e64 : hI M2 64 15 = hI M 64 15) (e53 : hI M2 126 53 = hI M 126 53) : Drw M2 := Drw_fr D e64 (by rw [agr_I a (nin_at n (by decide))]) e53 (agr_I a (nin_at n (by decide))) (agr_I a (nin_at n (by decide))) (agr_I a (nin_at n (by decide)))
theorem Und_E {E : List Nat} {M2 : hp} {n : Nat} (U : Und M n) (a : agr E M M2) (h : nin E [103, 104, 131, 132] = true) (e6 : hI M2 65 6 = hI M 65 6) (e7 : hI M2 65 7 = hI M 65 7) (e8 : hI M2 126 8 = hI M 126 8) : Und M2 n := Und_fr U (agr_I a (nin_at h (by decide))) (agr_I a (nin_at h (by decide))) e6 e7 e8 (fun l _ => by rw [agr_I a (nin_at h (by decide))]) (agr_I a (nin_at h (by decide)))
theorem HC_E {E : List Nat} {M2 : hp} {n nl : Nat} {lw : Nat → Nat × (Nat → Cls)} (H : HC M 65 (hI M 128) n nl lw) (a : agr E M M2) (lo : low E) (h : nin E (hallC 65 ++ [128]) = true) : HC M2 65 (hI M2 128) n nl lw := by
  have r5 : ∀ r, r ≤ 4 → r = 0 ∨ r = 1 ∨ r = 2 ∨ r = 3 ∨ r = 4 := by omega
  have e : hI M2 128 = hI M 128 := agr_I a (nin_at h (by decide))
  exact HC_fr H (upk_agr a lo) (fun r hr => agr_I a (nin_at h (by rcases r5 r hr with rfl | rfl | rfl | rfl | rfl <;> decide))) (by rw [agr_R a]) (fun l _ => by rw [e])
theorem SimB_E {E : List Nat} {M2 : hp} (B : SimB M) (a : agr E M M2) (n : nin E [141, 142, 143, 151] = true) (e20 : hI M2 126 20 = hI M 126 20) (e0 : hI M2 126 0 = hI M 126 0) : SimB M2 :=
  SimB_fr B (by rw [a.1]; exact Nat.le_refl _) (fun x _ => by rw [agr_K a]) (fun x _ _ => by rw [agr_R a]) (agr_L a (nin_at n (by decide))) (agr_L a (nin_at n (by decide))) (agr_L a (nin_at n (by decide))) (agr_L a (nin_at n (by decide))) e20 e0
/-- only answers that are kept change -/
theorem Sim_tell {M2 : hp} (S : Sim M) (a : agr [64, 125, 126, 127] M M2) (e64 : ∀ k, k = 15 → hI M2 64 k = hI M 64 k) (e126 : ∀ k, k = 20 ∨ k = 0 ∨ k = 13 ∨ k = 53 ∨ k = 8 → hI M2 126 k = hI M 126 k) (C : Scl M2) : Sim M2 := by
  obtain ⟨B, Z, I, T, _, D, n, nl, lw, H, U⟩ := S
  have lo : low [64, 125, 126, 127] := by intro x q; simp at q; have : kB = 154 := rfl; omega
  have e65 : hI M2 65 = hI M 65 := agr_I a (by decide)
  exact ⟨SimB_E B a (by decide) (e126 20 (by omega)) (e126 0 (by omega)), Scr_E Z a (by decide), Img_E I a lo (by decide), Tpe_E T a (by decide) (e126 13 (by omega)), C, Drw_E D a (by decide) (e64 15 rfl) (e126 53 (by omega)), n, nl, lw, HC_E H a lo (by decide), Und_E U a (by decide) (by rw [e65]) (by rw [e65]) (e126 8 (by omega))⟩
def rsnOk (v : Nat) : Prop := v = 1 ∨ v = 2 ∨ v = 3 ∨ v = 5 ∨ v = 6
theorem Scl_ref {M1 : hp} {v : Nat} (hv : rsnOk v) (C : Scl M) (e1 : hI M1 64 16 = hI M 64 16 ∧ hI M1 64 17 = hI M 64 17 ∧ hI M1 64 18 = hI M 64 18 ∧ hI M1 64 19 = -(nI v)) (e2 : ∀ k, hI M1 125 k = if k = plcF (-(nI v)) then hI M 125 k + 1 else hI M 125 k) (e3 : hI M1 126 11 = hI M 126 11 ∧ hI M1 126 18 = hI M 126 18 ∧ hI M1 126 49 = hI M 126 49 ∧ hI M1 126 1 = -(nI v)) (e4 : ∀ k, hI M1 127 k = if k = v then hI M 127 k + 1 else hI M 127 k) : Scl M1 := by
  obtain ⟨c1, c2, c3, c4, c5, c6, c7, c8, c9⟩ := C
  refine ⟨e1.1.trans (c1.trans e3.1.symm), e1.2.1.trans (c2.trans e3.2.1.symm), e1.2.2.1.trans (c3.trans e3.2.2.1.symm), e1.2.2.2.trans e3.2.2.2.symm, ?_, ?_, ?_, ?_, ?_⟩ <;> (rw [e2, e4]; rcases hv with rfl | rfl | rfl | rfl | rfl <;> simp_all [plcF, show (-(nI 1)) = (-1 : Int32) from by decide, show (-(nI 2)) = (-2 : Int32) from by decide, show (-(nI 3)) = (-3 : Int32) from by decide, show (-(nI 5)) = (-5 : Int32) from by decide, show (-(nI 6)) = (-6 : Int32) from by decide])
theorem Sim_refused {v : Nat} (hv : rsnOk v) (S : Sim M) : Sim (mRef (refM M (-(nI v))) v) := by
  have C := S.2.2.2.2.1
  refine Sim_tell S ?_ ?_ ?_ ?_
  · refine agr_trans (agr_trans (agr_sI (by decide)) (agr_sI (by decide))) (agr_trans (agr_sI (by decide)) (agr_sI (by decide)))
  · intro k hk
    subst hk
    unfold mRef refM
    rw [hI_sI_a (by decide), hI_sI_a (by decide), hI_sI_a (by decide), hI_sI_k (by decide)]
  · intro k hk
    unfold mRef refM
    rw [hI_sI_a (by decide), hI_sI_k (by omega), hI_sI_a (by decide), hI_sI_a (by decide)]
  · refine Scl_ref hv C ⟨?_, ?_, ?_, ?_⟩ (fun k => ?_) ⟨?_, ?_, ?_, ?_⟩ (fun k => ?_)
    · unfold mRef refM; rw [hI_sI_a (by decide), hI_sI_a (by decide), hI_sI_a (by decide), hI_sI_k (by decide)]
    · unfold mRef refM; rw [hI_sI_a (by decide), hI_sI_a (by decide), hI_sI_a (by decide), hI_sI_k (by decide)]
    · unfold mRef refM; rw [hI_sI_a (by decide), hI_sI_a (by decide), hI_sI_a (by decide), hI_sI_k (by decide)]
    · unfold mRef refM; rw [hI_sI_a (by decide), hI_sI_a (by decide), hI_sI_a (by decide), hI_sI_s]
    · unfold mRef refM
      rw [hI_sI_a (by decide), hI_sI_a (by decide)]
      by_cases c : k = plcF (-(nI v))
      · rw [c, hI_sI_s, if_pos rfl, show hI M 125 = hI M 125 from rfl]
      · rw [hI_sI_k c, hI_sI_a (by decide), if_neg c]
    · unfold mRef refM; rw [hI_sI_a (by decide), hI_sI_k (by decide), hI_sI_a (by decide), hI_sI_a (by decide)]
    · unfold mRef refM; rw [hI_sI_a (by decide), hI_sI_k (by decide), hI_sI_a (by decide), hI_sI_a (by decide)]
    · unfold mRef refM; rw [hI_sI_a (by decide), hI_sI_k (by decide), hI_sI_a (by decide), hI_sI_a (by decide)]
    · unfold mRef refM; rw [hI_sI_a (by decide), hI_sI_s]
    · unfold mRef refM
      by_cases c : k = v
      · rw [c, hI_sI_s, if_pos rfl]
        rw [hI_sI_a (by decide), hI_sI_a (by decide)]
      · rw [hI_sI_k c, hI_sI_a (by decide), hI_sI_a (by decide), hI_sI_a (by decide), if_neg c]
theorem p_refused {mi : Nat} {L2 : List (Nat × Value)} {v : Nat} (hv : rsnOk v) (S : Sim M) (K : Alk d mi L2 M Q) (R : ∀ Q2 : Option Value → hp → Prop, agr [64, 125] M (refM M (-(nI v))) → Q2 (some (.int (-(nI v)))) (mRef (refM M (-(nI v))) v) → Wp none d mi 0 L2 [] (refM M (-(nI v))) Q2) : Q (some (.int (-(nI v)))) (refM M (-(nI v))) :=
  K _ _ (fun Q2 h => R Q2 (agr_trans (agr_sI (by decide)) (agr_sI (by decide))) (h _ (Sim_refused hv S) (by show hN M ≤ hN M + 3; omega) (by show hS M ≤ hS M + 500; omega)))
theorem RP_64 {M1 : hp} {n : Nat} {D T P W : Nat → Int32} {hr rn : Int32} {L : Law} {E : List Nat} (X : RP M n D T P W hr rn L) (a : agr E M M1) (h : nin E [126, 128] = true) : RP M1 n D T P W hr rn L :=
  RP_of X (MF_agr X.F a) (agr_I a (nin_at h (by decide))) (by rw [agr_I a (a := 126) (nin_at h (by decide))]; exact X.o20) (by rw [agr_I a (a := 126) (nin_at h (by decide))]; exact X.o0)
