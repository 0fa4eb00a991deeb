variable {d : Nat} {M : hp} {Q : Option Value → hp → Prop}
/-! a text is made of what was read -/
theorem hN_sNew (M : hp) (k l s : Nat) : hN (sNew M k l s) = hN M + 1 := rfl
theorem hS_sNew (M : hp) (k l s : Nat) : hS (sNew M k l s) = hS M + s := rfl
theorem hK_sNew (M : hp) (k l s a : Nat) : hK (sNew M k l s) a = if a = 64 + hN M then (k, l) else hK M a := rfl
theorem hI_sNew (M : hp) (k l s a : Nat) : hI (sNew M k l s) a = if a = 64 + hN M then (fun _ => 0) else hI M a := by
  funext j
  show (if a = 64 + hN M then (0 : Int32) else hI M a j) = _
  by_cases c : a = 64 + hN M
  · rw [if_pos c, if_pos c]
  · rw [if_neg c, if_neg c]
theorem hL_sNew_o {M : hp} {k l s a : Nat} (h : a < 64 + hN M) : hL (sNew M k l s) a = hL M a := by
  funext j
  show (if a = 64 + hN M then (0 : Int64) else hL M a j) = _
  rw [if_neg (by omega)]
theorem hR_sNew_o {M : hp} {k l s a : Nat} (h : a < 64 + hN M) : hR (sNew M k l s) a = hR M a := by
  funext j
  show (if a = 64 + hN M then 0 else hR M a j) = _
  rw [if_neg (by omega)]
theorem hI_sNew_o {M : hp} {k l s a : Nat} (h : a < 64 + hN M) : hI (sNew M k l s) a = hI M a := by rw [hI_sNew, if_neg (by omega)]
theorem hK_sNew_o {M : hp} {k l s a : Nat} (h : a < 64 + hN M) : hK (sNew M k l s) a = hK M a := by rw [hK_sNew, if_neg (by omega)]
theorem hK_sNew_s (M : hp) (k l s : Nat) : hK (sNew M k l s) (64 + hN M) = (k, l) := by rw [hK_sNew, if_pos rfl]
/-- how a text t came out of the text 110 -/
def TxN (M M' : hp) (t len n : Nat) : Prop := hN M' = hN M + 2 ∧ hS M' = hS M + len + 8 * n ∧ (∀ a, a < 64 + hN M → hK M' a = hK M a) ∧ (∀ a, a < 64 + hN M → ¬ a = t → hI M' a = hI M a ∧ hL M' a = hL M a ∧ hR M' a = hR M a) ∧ hK M' (64 + hN M) = (20, len) ∧ hK M' (65 + hN M) = (20, 8 * n) ∧ hR M' t 0 = 64 + hN M ∧ hR M' t 1 = 65 + hN M ∧ hI M' t 2 = nI len ∧ hI M' t 3 = nI n ∧ (∀ k, k < len → hI M' (64 + hN M) k = hI M 111 k) ∧ ∀ k, k < 8 * n → hI M' (65 + hN M) k = hI M 112 k
theorem clamp_n {a b : Nat} (ha : a ≤ b) (hb : b < 2147483648) : (if 0 < (if nI b < nI a then nI b else nI a) then (if nI b < nI a then nI b else nI a) else 0) = nI a := by
  rw [if_neg (show ¬ nI b < nI a by rw [n_lt hb (by omega)]; omega)]
  by_cases c : 0 < a
  · rw [if_pos (by show nI 0 < nI a; rw [n_lt (by omega) (by omega)]; exact c)]
  · rw [if_neg (by show ¬ nI 0 < nI a; rw [n_lt (by omega) (by omega)]; exact c)]
    have : a = 0 := by omega
    rw [this]; rfl
theorem ok_len {a : Nat} (h : a ≤ 60000) : ¬ nI a < 0 ∧ (nI a).toNatClampNeg ≤ 60000 := by
  refine ⟨?_, by rw [n_cl (by omega)]; exact h⟩
  show ¬ nI a < nI 0
  rw [n_lt (by omega) (by omega)]
  omega
theorem Text_init {t len n : Nat} (kt : (hK M t).1 = 7) (ht : t < 64 + hN M) (h112 : 112 < t) (S : TextS M 110 111 112 400 96) (h2 : hI M 110 2 = nI len) (hlen : len ≤ 400) (h3 : hI M 110 3 = nI n) (hn : n ≤ 12) (hQ : ∀ M', TxN M M' t len n → Q none M') : Wp none d 84 0 [(0, .ref t), (1, .ref 110)] [] M Q := by
  obtain ⟨s1, s2, s3, s4, s5, s6, s7, s8, s9⟩ := S
  have e400 : (400 : Int32) = nI 400 := rfl
  have e12 : (12 : Int32) = nI 12 := rfl
  have c1 := clamp_n hlen (show 400 < 2147483648 by omega)
  have c2 := clamp_n hn (show 12 < 2147483648 by omega)
  have m8 : nI n * 8 = nI (8 * n) := by rw [show (8 : Int32) = nI 8 from rfl, n_mul, Nat.mul_comm]
  rw [k84_0 s1 (by rw [h2, e400, c1]; exact ok_len (by omega)) (by rw [hK_sNew_o ht]; exact kt) (by omega)]
  rw [h2, e400, c1, n_cl (by omega)]
  have N1 : hN (sR (sNew M 20 len len) t 0 (64 + hN M)) = hN M + 1 := rfl
  have I1 : ∀ a, a < 64 + hN M → hI (sR (sNew M 20 len len) t 0 (64 + hN M)) a = hI M a := fun a q => by rw [hI_sR, hI_sNew_o q]
  have K1 : ∀ a, a < 64 + hN M → hK (sR (sNew M 20 len len) t 0 (64 + hN M)) a = hK M a := fun a q => by rw [hK_sR, hK_sNew_o q]
  have L1 : ∀ a, a < 64 + hN M → hL (sR (sNew M 20 len len) t 0 (64 + hN M)) a = hL M a := fun a q => by rw [hL_sR, hL_sNew_o q]
  have R1 : ∀ a, a < 64 + hN M → ¬ a = t → hR (sR (sNew M 20 len len) t 0 (64 + hN M)) a = hR M a := fun a q q2 => by
    rw [← hR_sNew_o (k := 20) (l := len) (s := len) q]
    funext j
    rw [hR_sR, if_neg (fun z => q2 z.1)]
  have R1t : hR (sR (sNew M 20 len len) t 0 (64 + hN M)) t 0 = 64 + hN M := by rw [hR_sR, if_pos ⟨rfl, rfl⟩]
  have K1s : hK (sR (sNew M 20 len len) t 0 (64 + hN M)) (64 + hN M) = (20, len) := by rw [hK_sR]; exact hK_sNew_s _ _ _ _
  have S1 : hS (sR (sNew M 20 len len) t 0 (64 + hN M)) = hS M + len := rfl
  generalize sR (sNew M 20 len len) t 0 (64 + hN M) = Ma at *
  rw [k84_24 (by rw [K1 110 (by omega)]; exact s1) (by rw [I1 110 (by omega), h3, e12, c2, m8]; exact ok_len (by omega)) (by rw [hK_sNew_o (by rw [N1]; omega), K1 t ht]; exact kt) (by omega), I1 110 (by omega), h3, e12, c2, m8, n_cl (by omega), N1, show 64 + (hN M + 1) = 65 + hN M by omega]
  have N2 : hN (sR (sNew Ma 20 (8 * n) (8 * n)) t 1 (65 + hN M)) = hN M + 2 := by show hN Ma + 1 = _; rw [N1]
  have I2 : ∀ a, a < 64 + hN M → hI (sR (sNew Ma 20 (8 * n) (8 * n)) t 1 (65 + hN M)) a = hI M a := fun a q => by rw [hI_sR, hI_sNew_o (by rw [N1]; omega), I1 a q]
  have K2 : ∀ a, a < 64 + hN M → hK (sR (sNew Ma 20 (8 * n) (8 * n)) t 1 (65 + hN M)) a = hK M a := fun a q => by rw [hK_sR, hK_sNew_o (by rw [N1]; omega), K1 a q]
  have L2 : ∀ a, a < 64 + hN M → hL (sR (sNew Ma 20 (8 * n) (8 * n)) t 1 (65 + hN M)) a = hL M a := fun a q => by rw [hL_sR, hL_sNew_o (by rw [N1]; omega), L1 a q]
  have R2 : ∀ a, a < 64 + hN M → ¬ a = t → hR (sR (sNew Ma 20 (8 * n) (8 * n)) t 1 (65 + hN M)) a = hR M a := fun a q q2 => by
    rw [← R1 a q q2, ← hR_sNew_o (M := Ma) (k := 20) (l := 8 * n) (s := 8 * n) (by rw [N1]; omega)]
    funext j
    rw [hR_sR, if_neg (fun z => q2 z.1)]
  have R2t : hR (sR (sNew Ma 20 (8 * n) (8 * n)) t 1 (65 + hN M)) t 0 = 64 + hN M := by rw [hR_sR, if_neg (fun z => absurd z.2 (by decide)), hR_sNew_o (by rw [N1]; omega)]; exact R1t
  have R2u : hR (sR (sNew Ma 20 (8 * n) (8 * n)) t 1 (65 + hN M)) t 1 = 65 + hN M := by rw [hR_sR, if_pos ⟨rfl, rfl⟩]
  have K2s : hK (sR (sNew Ma 20 (8 * n) (8 * n)) t 1 (65 + hN M)) (64 + hN M) = (20, len) := by rw [hK_sR, hK_sNew_o (by rw [N1]; omega)]; exact K1s
  have K2u : hK (sR (sNew Ma 20 (8 * n) (8 * n)) t 1 (65 + hN M)) (65 + hN M) = (20, 8 * n) := by
    rw [hK_sR, hK_sNew, if_pos (by rw [N1]; omega)]
  have S2 : hS (sR (sNew Ma 20 (8 * n) (8 * n)) t 1 (65 + hN M)) = hS M + len + 8 * n := by show hS Ma + 8 * n = _; rw [S1]
  generalize sR (sNew Ma 20 (8 * n) (8 * n)) t 1 (65 + hN M) = Mb at *
  have R110 : hR Mb 110 = hR M 110 := R2 110 (by omega) (by omega)
  rw [k84_46 (by rw [K2 110 (by omega)]; exact s1) (by rw [R110, s2]; omega) (by rw [K2 t ht]; exact kt) (by rw [R2t]; omega), R110, s2, R2t, k84_54, T_copyCells (by rw [K2 111 (by omega)]; exact s4) K2s (by omega) (by omega) (by omega) (by omega) (by omega), show min 400 len = len by omega, I2 111 (by omega)]
  simp only [oZ]
  have I3 : ∀ a, ¬ a = 64 + hN M → hI (sIs Mb (64 + hN M) 0 len (hI M 111)) a = hI Mb a := fun a q => by funext j; exact hI_sIs_a q
  rw [k84_57 (by rw [hK_sIs, K2 110 (by omega)]; exact s1) (by rw [hR_sIs, R110, s3]; omega) (by rw [hK_sIs, K2 t ht]; exact kt) (by rw [hR_sIs, R2u]; omega), hR_sIs, R110, s3, R2u, k84_65, T_copyCells (by rw [hK_sIs, K2 112 (by omega)]; exact s5) (by rw [hK_sIs]; exact K2u) (by omega) (by omega) (by omega) (by omega) (by omega), show min 96 (8 * n) = 8 * n by omega, I3 112 (by omega), I2 112 (by omega)]
  simp only [oZ]
  have Kc : hK (sIs (sIs Mb (64 + hN M) 0 len (hI M 111)) (65 + hN M) 0 (8 * n) (hI M 112)) = hK Mb := rfl
  have Rc : hR (sIs (sIs Mb (64 + hN M) 0 len (hI M 111)) (65 + hN M) 0 (8 * n) (hI M 112)) = hR Mb := rfl
  rw [k84_68 (by rw [Kc, K2 t ht]; exact kt) (by rw [Rc, R2t]; omega) (by rw [Rc, R2t]; omega) (by rw [Kc, Rc, R2t, K2s]; show 20 ≤ 20 ∧ 20 < 25; omega), Kc, Rc, R2t, K2s, show Int32.ofNat (20, len).2 = nI len from rfl]
  rw [k84_77 (by rw [hK_sI, Kc, K2 110 (by omega)]; exact s1) (by rw [hK_sI, Kc, K2 t ht]; exact kt)]
  have e3 : hI (sI (sIs (sIs Mb (64 + hN M) 0 len (hI M 111)) (65 + hN M) 0 (8 * n) (hI M 112)) t 2 (nI len)) 110 3 = nI n := by
    rw [hI_sI_a (by omega), hI_sIs_a (by omega), hI_sIs_a (by omega), I2 110 (by omega)]; exact h3
  rw [e3]
  refine hQ _ ⟨N2, S2, fun a q => K2 a q, fun a q q2 => ⟨?_, L2 a q, R2 a q q2⟩, K2s, K2u, R2t, R2u, ?_, hI_sI_s _ _ _ _, fun k hk => ?_, fun k hk => ?_⟩
  · funext j
    rw [hI_sI_a q2, hI_sI_a q2, hI_sIs_a (by omega), hI_sIs_a (by omega), I2 a q]
  · rw [hI_sI_k (by decide), hI_sI_s]
  · rw [hI_sI_a (by omega), hI_sI_a (by omega), hI_sIs_a (by omega), hI_sIs_0 hk]
  · rw [hI_sI_a (by omega), hI_sI_a (by omega), hI_sIs_0 hk]
/-- what is read denotes what the text denotes -/
theorem seg_of {M' : hp} {tc tr lc len k : Nat} {D : (Nat → Int32) → Option Int64} (h : Sg M 9 k len D) (hlc : len ≤ lc) (hl : lc ≤ 400) (h1 : ∀ j, j < len → hI M' tc j = hI M 111 j) (e1 : hI M' tr k = hI M 112 k) (e2 : hI M' tr (k + 1) = hI M 112 (k + 1)) : SegD M' tc tr lc len 9 k D := by
  obtain ⟨f, g, q1, q2, q3, q4, q5⟩ := h
  refine ⟨f, g, e1.trans q1, e2.trans q2, q3, q4, fun E s => ?_⟩
  rcases q5 with ⟨rfl, rfl⟩ | ⟨w, w1, w2⟩
  · rw [Nat.sub_self]; rfl
  · have w3 := SegC_cong (C' := fun i => gI M' tc lc (nI i)) w2 (fun j r1 r2 => by
      unfold gI
      rw [if_neg (by show ¬ nI j < nI 0; rw [n_lt (by omega) (by omega)]; omega), if_neg (by rw [n_le (by omega) (by omega)]; omega), n_cl (by omega), h1 j (by omega)])
    have := w3.2 E (nI f, 0, 1, s) (by show ¬ nI f < nI f; rw [n_lt (by omega) (by omega)]; omega) (by show 0 + w ≤ 50; omega)
    rw [crun_cst]
    cases hD : D (msk 9 E) with
    | none =>
      rw [hD] at this
      rw [show cst (fun i => gI M' tc lc (nI i)) E (g - f) f (nI f, 0, 1, s) = none from this]
      rfl
    | some v =>
      rw [hD] at this
      obtain ⟨go, s', t1, t2⟩ := this
      rw [t1]
      rfl
