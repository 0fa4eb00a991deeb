/-! memory: what a store leaves -/
theorem hK_sI (M : hp) (a k : Nat) (v : Int32) : hK (sI M a k v) = hK M := rfl
theorem hR_sI (M : hp) (a k : Nat) (v : Int32) : hR (sI M a k v) = hR M := rfl
theorem hL_sI (M : hp) (a k : Nat) (v : Int32) : hL (sI M a k v) = hL M := rfl
theorem hN_sI (M : hp) (a k : Nat) (v : Int32) : hN (sI M a k v) = hN M := rfl
theorem hS_sI (M : hp) (a k : Nat) (v : Int32) : hS (sI M a k v) = hS M := rfl
theorem hK_sL (M : hp) (a k : Nat) (v : Int64) : hK (sL M a k v) = hK M := rfl
theorem hR_sL (M : hp) (a k : Nat) (v : Int64) : hR (sL M a k v) = hR M := rfl
theorem hI_sL (M : hp) (a k : Nat) (v : Int64) : hI (sL M a k v) = hI M := rfl
theorem hN_sL (M : hp) (a k : Nat) (v : Int64) : hN (sL M a k v) = hN M := rfl
theorem hS_sL (M : hp) (a k : Nat) (v : Int64) : hS (sL M a k v) = hS M := rfl
theorem hK_sR (M : hp) (a k : Nat) (v : Nat) : hK (sR M a k v) = hK M := rfl
theorem hI_sR (M : hp) (a k : Nat) (v : Nat) : hI (sR M a k v) = hI M := rfl
theorem hL_sR (M : hp) (a k : Nat) (v : Nat) : hL (sR M a k v) = hL M := rfl
theorem hN_sR (M : hp) (a k : Nat) (v : Nat) : hN (sR M a k v) = hN M := rfl
theorem hS_sR (M : hp) (a k : Nat) (v : Nat) : hS (sR M a k v) = hS M := rfl
theorem hI_sI (M : hp) (a k a' k' : Nat) (v : Int32) : hI (sI M a k v) a' k' = if a' = a ∧ k' = k then v else hI M a' k' := rfl
theorem hL_sL (M : hp) (a k a' k' : Nat) (v : Int64) : hL (sL M a k v) a' k' = if a' = a ∧ k' = k then v else hL M a' k' := rfl
theorem hR_sR (M : hp) (a k a' k' : Nat) (v : Nat) : hR (sR M a k v) a' k' = if a' = a ∧ k' = k then v else hR M a' k' := rfl
theorem hI_sI_s (M : hp) (a k : Nat) (v : Int32) : hI (sI M a k v) a k = v := by rw [hI_sI, if_pos ⟨rfl, rfl⟩]
theorem hI_sI_a {M : hp} {a k a' k' : Nat} {v : Int32} (h : ¬ a' = a) : hI (sI M a k v) a' k' = hI M a' k' := by rw [hI_sI, if_neg (fun q => h q.1)]
theorem hI_sI_k {M : hp} {a k a' k' : Nat} {v : Int32} (h : ¬ k' = k) : hI (sI M a k v) a' k' = hI M a' k' := by rw [hI_sI, if_neg (fun q => h q.2)]
theorem hL_sL_s (M : hp) (a k : Nat) (v : Int64) : hL (sL M a k v) a k = v := by rw [hL_sL, if_pos ⟨rfl, rfl⟩]
theorem hL_sL_a {M : hp} {a k a' k' : Nat} {v : Int64} (h : ¬ a' = a) : hL (sL M a k v) a' k' = hL M a' k' := by rw [hL_sL, if_neg (fun q => h q.1)]
theorem hL_sL_k {M : hp} {a k a' k' : Nat} {v : Int64} (h : ¬ k' = k) : hL (sL M a k v) a' k' = hL M a' k' := by rw [hL_sL, if_neg (fun q => h q.2)]
/-- the ints of a place, from m on n of them, written at once -/
def sIs (M : hp) (a m n : Nat) (g : Nat → Int32) : hp := (M.1, M.2.1, M.2.2.1, (fun a' k' => if a' = a ∧ m ≤ k' ∧ k' < m + n then g (k' - m) else M.2.2.2.1 a' k'), M.2.2.2.2.1, M.2.2.2.2.2)
theorem hK_sIs (M : hp) (a m n : Nat) (g : Nat → Int32) : hK (sIs M a m n g) = hK M := rfl
theorem hR_sIs (M : hp) (a m n : Nat) (g : Nat → Int32) : hR (sIs M a m n g) = hR M := rfl
theorem hL_sIs (M : hp) (a m n : Nat) (g : Nat → Int32) : hL (sIs M a m n g) = hL M := rfl
theorem hI_sIs (M : hp) (a m n a' k' : Nat) (g : Nat → Int32) : hI (sIs M a m n g) a' k' = if a' = a ∧ m ≤ k' ∧ k' < m + n then g (k' - m) else hI M a' k' := rfl
theorem hI_sIs_a {M : hp} {a m n a' k' : Nat} {g : Nat → Int32} (h : ¬ a' = a) : hI (sIs M a m n g) a' k' = hI M a' k' := by rw [hI_sIs, if_neg (fun q => h q.1)]
theorem sIs_0 (M : hp) (a m : Nat) (g : Nat → Int32) : sIs M a m 0 g = M := by
  unfold sIs
  have : (fun a' k' => if a' = a ∧ m ≤ k' ∧ k' < m + 0 then g (k' - m) else M.2.2.2.1 a' k') = M.2.2.2.1 := by
    funext a' k'
    rw [if_neg (by omega)]
  rw [this]
theorem sI_id (M : hp) (a k : Nat) : sI M a k (hI M a k) = M := by
  unfold sI
  have : up M.2.2.2.1 a k (hI M a k) = M.2.2.2.1 := by
    funext a' k'
    unfold up
    by_cases h : a' = a ∧ k' = k
    · rw [if_pos h, h.1, h.2]; rfl
    · rw [if_neg h]
  rw [this]
theorem sIs_1 (M : hp) (a m n : Nat) (g : Nat → Int32) : sI (sIs M a m n g) a (m + n) (g n) = sIs M a m (n + 1) g := by
  unfold sIs sI up
  have : (fun a' k' => if a' = a ∧ k' = m + n then g n else (fun a' k' => if a' = a ∧ m ≤ k' ∧ k' < m + n then g (k' - m) else M.2.2.2.1 a' k') a' k') = (fun a' k' => if a' = a ∧ m ≤ k' ∧ k' < m + (n + 1) then g (k' - m) else M.2.2.2.1 a' k') := by
    funext a' k'
    by_cases h1 : a' = a ∧ k' = m + n
    · obtain ⟨q1, q2⟩ := h1
      subst q1; subst q2
      rw [if_pos ⟨rfl, rfl⟩, if_pos ⟨rfl, by omega, by omega⟩, Nat.add_sub_cancel_left]
    · rw [if_neg h1]
      by_cases h2 : a' = a ∧ m ≤ k' ∧ k' < m + n
      · simp only [if_pos h2, if_pos (show a' = a ∧ m ≤ k' ∧ k' < m + (n + 1) by omega)]
      · simp only [if_neg h2, if_neg (show ¬ (a' = a ∧ m ≤ k' ∧ k' < m + (n + 1)) by omega)]
  exact congrArg (fun f => (M.1, M.2.1, M.2.2.1, f, M.2.2.2.2.1, M.2.2.2.2.2)) this
def sLs (M : hp) (a m n : Nat) (g : Nat → Int64) : hp := (M.1, M.2.1, M.2.2.1, M.2.2.2.1, (fun a' k' => if a' = a ∧ m ≤ k' ∧ k' < m + n then g (k' - m) else M.2.2.2.2.1 a' k'), M.2.2.2.2.2)
theorem hL_sLs (M : hp) (a m n a' k' : Nat) (g : Nat → Int64) : hL (sLs M a m n g) a' k' = if a' = a ∧ m ≤ k' ∧ k' < m + n then g (k' - m) else hL M a' k' := rfl
theorem sLs_0 (M : hp) (a m : Nat) (g : Nat → Int64) : sLs M a m 0 g = M := by
  unfold sLs
  have : (fun a' k' => if a' = a ∧ m ≤ k' ∧ k' < m + 0 then g (k' - m) else M.2.2.2.2.1 a' k') = M.2.2.2.2.1 := by
    funext a' k'
    rw [if_neg (by omega)]
  rw [this]
theorem sLs_1 (M : hp) (a m n : Nat) (g : Nat → Int64) : sL (sLs M a m n g) a (m + n) (g n) = sLs M a m (n + 1) g := by
  unfold sLs sL up
  have : (fun a' k' => if a' = a ∧ k' = m + n then g n else (fun a' k' => if a' = a ∧ m ≤ k' ∧ k' < m + n then g (k' - m) else M.2.2.2.2.1 a' k') a' k') = (fun a' k' => if a' = a ∧ m ≤ k' ∧ k' < m + (n + 1) then g (k' - m) else M.2.2.2.2.1 a' k') := by
    funext a' k'
    by_cases h1 : a' = a ∧ k' = m + n
    · obtain ⟨q1, q2⟩ := h1
      subst q1; subst q2
      rw [if_pos ⟨rfl, rfl⟩, if_pos ⟨rfl, by omega, by omega⟩, Nat.add_sub_cancel_left]
    · rw [if_neg h1]
      by_cases h2 : a' = a ∧ m ≤ k' ∧ k' < m + n
      · simp only [if_pos h2, if_pos (show a' = a ∧ m ≤ k' ∧ k' < m + (n + 1) by omega)]
      · simp only [if_neg h2, if_neg (show ¬ (a' = a ∧ m ≤ k' ∧ k' < m + (n + 1)) by omega)]
  exact congrArg (fun f => (M.1, M.2.1, M.2.2.1, M.2.2.2.1, f, M.2.2.2.2.2)) this
def sRs (M : hp) (a m n : Nat) (g : Nat → Nat) : hp := (M.1, M.2.1, M.2.2.1, M.2.2.2.1, M.2.2.2.2.1, (fun a' k' => if a' = a ∧ m ≤ k' ∧ k' < m + n then g (k' - m) else M.2.2.2.2.2 a' k'))
theorem hR_sRs (M : hp) (a m n a' k' : Nat) (g : Nat → Nat) : hR (sRs M a m n g) a' k' = if a' = a ∧ m ≤ k' ∧ k' < m + n then g (k' - m) else hR M a' k' := rfl
theorem hR_sRs_a {M : hp} {a m n a' k' : Nat} {g : Nat → Nat} (h : ¬ a' = a) : hR (sRs M a m n g) a' k' = hR M a' k' := by rw [hR_sRs, if_neg (fun q => h q.1)]
theorem sRs_0 (M : hp) (a m : Nat) (g : Nat → Nat) : sRs M a m 0 g = M := by
  unfold sRs
  have : (fun a' k' => if a' = a ∧ m ≤ k' ∧ k' < m + 0 then g (k' - m) else M.2.2.2.2.2 a' k') = M.2.2.2.2.2 := by
    funext a' k'
    rw [if_neg (by omega)]
  rw [this]
theorem sRs_1 (M : hp) (a m n : Nat) (g : Nat → Nat) : sR (sRs M a m n g) a (m + n) (g n) = sRs M a m (n + 1) g := by
  unfold sRs sR up
  have : (fun a' k' => if a' = a ∧ k' = m + n then g n else (fun a' k' => if a' = a ∧ m ≤ k' ∧ k' < m + n then g (k' - m) else M.2.2.2.2.2 a' k') a' k') = (fun a' k' => if a' = a ∧ m ≤ k' ∧ k' < m + (n + 1) then g (k' - m) else M.2.2.2.2.2 a' k') := by
    funext a' k'
    by_cases h1 : a' = a ∧ k' = m + n
    · obtain ⟨q1, q2⟩ := h1
      subst q1; subst q2
      rw [if_pos ⟨rfl, rfl⟩, if_pos ⟨rfl, by omega, by omega⟩, Nat.add_sub_cancel_left]
    · rw [if_neg h1]
      by_cases h2 : a' = a ∧ m ≤ k' ∧ k' < m + n
      · simp only [if_pos h2, if_pos (show a' = a ∧ m ≤ k' ∧ k' < m + (n + 1) by omega)]
      · simp only [if_neg h2, if_neg (show ¬ (a' = a ∧ m ≤ k' ∧ k' < m + (n + 1)) by omega)]
  exact congrArg (fun f => (M.1, M.2.1, M.2.2.1, M.2.2.2.1, M.2.2.2.2.1, f)) this
/-- all but the places of a list is as it was -/
def agr (E : List Nat) (M M' : hp) : Prop := hN M' = hN M ∧ hS M' = hS M ∧ hK M' = hK M ∧ hR M' = hR M ∧ ∀ a, E.contains a = false → hI M' a = hI M a ∧ hL M' a = hL M a
theorem agr_refl (E : List Nat) (M : hp) : agr E M M := ⟨rfl, rfl, rfl, rfl, fun _ _ => ⟨rfl, rfl⟩⟩
theorem agr_trans {E : List Nat} {M M' M2 : hp} (h : agr E M M') (h2 : agr E M' M2) : agr E M M2 := ⟨h2.1.trans h.1, h2.2.1.trans h.2.1, h2.2.2.1.trans h.2.2.1, h2.2.2.2.1.trans h.2.2.2.1, fun a q => ⟨(h2.2.2.2.2 a q).1.trans (h.2.2.2.2 a q).1, (h2.2.2.2.2 a q).2.trans (h.2.2.2.2 a q).2⟩⟩
theorem agr_mono {E E' : List Nat} {M M' : hp} (h : agr E M M') (hs : ∀ a, E.contains a = true → E'.contains a = true) : agr E' M M' := ⟨h.1, h.2.1, h.2.2.1, h.2.2.2.1, fun a q => h.2.2.2.2 a (by
  cases e : E.contains a with
  | false => rfl
  | true => rw [hs a e] at q; cases q)⟩
theorem agr_sI {E : List Nat} {M : hp} {a k : Nat} {v : Int32} (ha : E.contains a = true) : agr E M (sI M a k v) := ⟨rfl, rfl, rfl, rfl, fun b q => ⟨by
  funext k'
  exact hI_sI_a (fun e => by rw [e, ha] at q; cases q), rfl⟩⟩
theorem agr_sL {E : List Nat} {M : hp} {a k : Nat} {v : Int64} (ha : E.contains a = true) : agr E M (sL M a k v) := ⟨rfl, rfl, rfl, rfl, fun b q => ⟨rfl, by
  funext k'
  exact hL_sL_a (fun e => by rw [e, ha] at q; cases q)⟩⟩
theorem agr_sIs {E : List Nat} {M : hp} {a m n : Nat} {g : Nat → Int32} (ha : E.contains a = true) : agr E M (sIs M a m n g) := ⟨rfl, rfl, rfl, rfl, fun b q => ⟨by
  funext k'
  exact hI_sIs_a (fun e => by rw [e, ha] at q; cases q), rfl⟩⟩
/-! numbers -/
theorem nI_def (n : Nat) : Int32.ofNat n = nI n := rfl
theorem i32_inj {x y : Int32} (h : x.toInt = y.toInt) : x = y := Int32.toInt_inj.mp h
theorem n_ltl {a n : Nat} (ha : a < 2147483648) (hn : n < 2147483648) : (nI a < (OfNat.ofNat n : Int32)) = (a < n) := by
  rw [fa_lit]; exact propext (nI_ltI ha hn)
theorem n_lel {a n : Nat} (ha : a < 2147483648) (hn : n < 2147483648) : (nI a ≤ (OfNat.ofNat n : Int32)) = (a ≤ n) := by
  rw [fa_lit]; exact propext (nI_leI ha hn)
theorem n_llt {a n : Nat} (ha : a < 2147483648) (hn : n < 2147483648) : ((OfNat.ofNat n : Int32) < nI a) = (n < a) := by
  rw [fa_lit]; exact propext (nI_ltI hn ha)
theorem n_lle {a n : Nat} (ha : a < 2147483648) (hn : n < 2147483648) : ((OfNat.ofNat n : Int32) ≤ nI a) = (n ≤ a) := by
  rw [fa_lit]; exact propext (nI_leI hn ha)
theorem n_eql {a n : Nat} (ha : a < 2147483648) (hn : n < 2147483648) : (nI a = (OfNat.ofNat n : Int32)) = (a = n) := by
  rw [fa_lit]; exact propext (nI_eq ha hn)
theorem n_lt {a b : Nat} (ha : a < 2147483648) (hb : b < 2147483648) : (nI a < nI b) = (a < b) := propext (nI_ltI ha hb)
theorem n_le {a b : Nat} (ha : a < 2147483648) (hb : b < 2147483648) : (nI a ≤ nI b) = (a ≤ b) := propext (nI_leI ha hb)
theorem n_eq {a b : Nat} (ha : a < 2147483648) (hb : b < 2147483648) : (nI a = nI b) = (a = b) := propext (nI_eq ha hb)
theorem n_m1 {a : Nat} (ha : a < 2147483648) : (nI a = -1) = False := by
  apply eq_false
  intro h
  have := congrArg Int32.toInt h
  rw [nI_toInt ha] at this
  have e : (-1 : Int32).toInt = -1 := rfl
  omega
theorem n_m1' {a : Nat} (ha : a < 2147483648) : (-1 = nI a) = False := by
  apply eq_false
  intro h
  have := n_m1 ha
  rw [h.symm] at this
  simp at this
theorem n_cl {a : Nat} (ha : a < 2147483648) : (nI a).toNatClampNeg = a := nI_clamp ha
theorem vin_n {a n : Nat} (ha : a < 2147483648) : vin (nI a) n = decide (a < n) := by
  unfold vin
  rw [n_cl ha]
  have : ¬ nI a < 0 := nI_pos ha
  by_cases h : a < n
  · rw [decide_eq_true h]; simp only [this, false_or]; rw [decide_eq_true (by omega)]
  · rw [decide_eq_false h]; simp only [this, false_or]; rw [decide_eq_false (by omega)]
theorem vin_of2 {x : Int32} {n : Nat} (h0 : ¬ x < 0) (h1 : ¬ nI n ≤ x) (hn : n < 2147483648) : vin x n = true ∧ ∃ j, j < n ∧ x = nI j := by
  obtain ⟨j, hj, e⟩ := nI_of h0
  subst e
  have : j < n := by
    rw [n_le hn hj] at h1
    omega
  exact ⟨by rw [vin_n hj, decide_eq_true this], j, this, rfl⟩
/-- an int in an array, 0 outside -/
def gI (M : hp) (a L : Nat) (i : Int32) : Int32 := if i < 0 then 0 else if nI L ≤ i then 0 else hI M a i.toNatClampNeg
def gL (M : hp) (a L : Nat) (i : Int32) : Int64 := if i < 0 then 0 else if nI L ≤ i then 0 else hL M a i.toNatClampNeg
def pI (M : hp) (a L : Nat) (i v : Int32) : hp := if i < 0 then M else if nI L ≤ i then M else sI M a i.toNatClampNeg v
def pL (M : hp) (a L : Nat) (i : Int32) (v : Int64) : hp := if i < 0 then M else if nI L ≤ i then M else sL M a i.toNatClampNeg v
theorem gI_n {M : hp} {a L i : Nat} (h : i < L) (hL : L < 2147483648) : gI M a L (nI i) = hI M a i := by
  have hi : i < 2147483648 := by omega
  unfold gI
  rw [if_neg (nI_pos hi), if_neg (by rw [n_le hL hi]; omega), n_cl hi]
theorem gL_n {M : hp} {a L i : Nat} (h : i < L) (hl : L < 2147483648) : gL M a L (nI i) = hL M a i := by
  have hi : i < 2147483648 := by omega
  unfold gL
  rw [if_neg (nI_pos hi), if_neg (by rw [n_le hl hi]; omega), n_cl hi]
theorem pI_n {M : hp} {a L i : Nat} {v : Int32} (h : i < L) (hL : L < 2147483648) : pI M a L (nI i) v = sI M a i v := by
  have hi : i < 2147483648 := by omega
  unfold pI
  rw [if_neg (nI_pos hi), if_neg (by rw [n_le hL hi]; omega), n_cl hi]
theorem pL_n {M : hp} {a L i : Nat} {v : Int64} (h : i < L) (hl : L < 2147483648) : pL M a L (nI i) v = sL M a i v := by
  have hi : i < 2147483648 := by omega
  unfold pL
  rw [if_neg (nI_pos hi), if_neg (by rw [n_le hl hi]; omega), n_cl hi]
theorem T_at {d : Nat} {M : hp} {Q : Option Value → hp → Prop} {a L : Nat} {i : Int32} (hk : hK M a = (20, L)) (ha : ¬ a = 1) (hL : L < 2147483648) : Wp none d 145 0 [(0, .ref a), (1, .int i)] [] M Q = Q (some (.int (gI M a L i))) M := by
  have e1 : (hK M a).1 = 20 := by rw [hk]
  have e2 : (hK M a).2 = L := by rw [hk]
  unfold gI
  rw [k145_0, k145_1]
  split
  · rw [k145_16, k145_17]
  · rename_i h0
    rw [k145_4 ha (by rw [e1]; omega), k145_7, e2, nI_def]
    split
    · rename_i h1
      rw [k145_16, k145_17]
    · rename_i h1
      rw [k145_10 ha e1 (by rw [e2]; exact (vin_of2 h0 h1 hL).1), k145_17]
theorem T_atL {d : Nat} {M : hp} {Q : Option Value → hp → Prop} {a L : Nat} {i : Int32} (hk : hK M a = (21, L)) (ha : ¬ a = 1) (hL : L < 2147483648) : Wp none d 146 0 [(0, .ref a), (1, .int i)] [] M Q = Q (some (.long (gL M a L i))) M := by
  have e1 : (hK M a).1 = 21 := by rw [hk]
  have e2 : (hK M a).2 = L := by rw [hk]
  unfold gL
  rw [k146_0, k146_1]
  split
  · rw [k146_16, k146_17]
  · rename_i h0
    rw [k146_4 ha (by rw [e1]; omega), k146_7, e2, nI_def]
    split
    · rename_i h1
      rw [k146_16, k146_17]
    · rename_i h1
      rw [k146_10 e1 (by rw [e2]; exact (vin_of2 h0 h1 hL).1), k146_17]
theorem T_put {d : Nat} {M : hp} {Q : Option Value → hp → Prop} {a L : Nat} {i v : Int32} (hk : hK M a = (20, L)) (ha : ¬ a = 1) (hL : L < 2147483648) : Wp none d 147 0 [(0, .ref a), (1, .int i), (2, .int v)] [] M Q = Q none (pI M a L i v) := by
  have e1 : (hK M a).1 = 20 := by rw [hk]
  have e2 : (hK M a).2 = L := by rw [hk]
  unfold pI
  rw [k147_0, k147_1]
  split
  · rw [k147_14]
  · rename_i h0
    rw [k147_4 ha (by rw [e1]; omega), k147_7, e2, nI_def]
    split
    · rename_i h1
      rw [k147_14]
    · rename_i h1
      rw [k147_10 e1 (by rw [e2]; exact (vin_of2 h0 h1 hL).1), k147_14]
theorem T_putL {d : Nat} {M : hp} {Q : Option Value → hp → Prop} {a L : Nat} {i : Int32} {v : Int64} (hk : hK M a = (21, L)) (ha : ¬ a = 1) (hL : L < 2147483648) : Wp none d 148 0 [(0, .ref a), (1, .int i), (2, .long v)] [] M Q = Q none (pL M a L i v) := by
  have e1 : (hK M a).1 = 21 := by rw [hk]
  have e2 : (hK M a).2 = L := by rw [hk]
  unfold pL
  rw [k148_0, k148_1]
  split
  · rw [k148_14]
  · rename_i h0
    rw [k148_4 ha (by rw [e1]; omega), k148_7, e2, nI_def]
    split
    · rename_i h1
      rw [k148_14]
    · rename_i h1
      rw [k148_10 e1 (by rw [e2]; exact (vin_of2 h0 h1 hL).1), k148_14]
