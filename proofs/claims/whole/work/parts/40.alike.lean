variable {d : Nat} {M : hp} {Q : Option Value → hp → Prop}
/-! hours, of a picture of a hall -/
def toldG (L : Law) (D T W : Nat → Int32) (hr rn : Int32) (j o : Nat) : Int32 := if W j &&& (W o ^^^ (-1)) = 0 then 0 else tldF (W j &&& (W o ^^^ (-1))) (fun th => ansF L 2 (lwF j D T W (nI o) (D o) (nI th) hr rn)) 8 0 (ansF L 0 (lwF j D T W (nI o) (D o) (-1) hr rn)) 0
theorem toldF_G (L : Law) (M : hp) (h j o : Nat) : toldF L M h j o = toldG L (hI M (h + 1)) (hI M (h + 2)) (hI M (h + 4)) (hI M h 5) (hI M h 7) j o := rfl
def hourG (L : Law) (D T P : Nat → Int32) (n : Nat) (rn : Int32) (s : (Nat → Int32) × Int32) : Nat → Int32 := tAll (toldG L D T s.1 s.2 rn) (onF P n)
theorem hourT_G (L : Law) (M : hp) (h n : Nat) : hourT L M h n = hourG L (hI M (h + 1)) (hI M (h + 2)) (hI M (h + 3)) n (hI M h 7) (hI M (h + 4), hI M h 5) := rfl
def stepG (L : Law) (D T P : Nat → Int32) (n : Nat) (rn : Int32) (s : (Nat → Int32) × Int32) : (Nat → Int32) × Int32 := (fun k => if k < n then s.1 k ||| hourG L D T P n rn s k else s.1 k, s.2 + 1)
def itG (L : Law) (D T P : Nat → Int32) (n : Nat) (rn : Int32) : Nat → (Nat → Int32) × Int32 → (Nat → Int32) × Int32
  | 0, s => s
  | k + 1, s => itG L D T P n rn k (stepG L D T P n rn s)
theorem hourG_sm (L : Law) (D T P : Nat → Int32) (n : Nat) (rn : Int32) (s : (Nat → Int32) × Int32) : ∀ j, sm (hourG L D T P n rn s j) := by
  refine tAll_sm _ _ ?_
  intro a b
  unfold toldG
  split
  · exact sm_0
  · exact tldF_sm _ _ 8 0 _ _ (by omega) sm_0
theorem stepG_sm {L : Law} {D T P : Nat → Int32} {n : Nat} {rn : Int32} {s : (Nat → Int32) × Int32} (h : KnoS s.1 n) : KnoS (stepG L D T P n rn s).1 n := by
  intro j hj
  show sm (if j < n then s.1 j ||| hourG L D T P n rn s j else s.1 j)
  rw [if_pos hj]
  exact sm_or (h j hj) (hourG_sm L D T P n rn s j)
/-- nothing learnt: nothing told -/
theorem mny_0 : ∀ v, v < 256 → mny (nI v) = nI 0 → v = 0 := by decide +kernel
theorem lrn_sum (T : Nat → Int32) (hT : ∀ j, sm (T j)) : ∀ n, n ≤ 7 → ∃ s, s ≤ 8 * n ∧ lrnF T n = nI s ∧ (s = 0 → ∀ j, j < n → T j = 0)
  | 0, _ => ⟨0, by omega, rfl, fun _ j h => absurd h (by omega)⟩
  | n + 1, h7 => by
    obtain ⟨s, h1, h2, h3⟩ := lrn_sum T hT n (by omega)
    obtain ⟨v, hv, ev⟩ := hT n
    obtain ⟨w, hw, ew⟩ := mny_sm v hv
    refine ⟨s + w, by omega, ?_, ?_⟩
    · unfold lrnF at *
      rw [fo_end, h2, Nat.zero_add, ev, ew, nI_add]
    · intro z j hj
      by_cases c : j = n
      · rw [c, ev]
        have w0 : w = 0 := by omega
        rw [w0] at ew
        rw [mny_0 v hv ew]
        rfl
      · exact h3 (by omega) j (by omega)
theorem lrn_0 {T : Nat → Int32} (hT : ∀ j, sm (T j)) {n : Nat} (h7 : n ≤ 7) (h : lrnF T n = 0) : ∀ j, j < n → T j = 0 := by
  obtain ⟨s, h1, h2, h3⟩ := lrn_sum T hT n h7
  rw [h2] at h
  have : s = 0 := by
    have e : nI s = nI 0 := h
    rw [n_eq (by omega) (by omega)] at e
    exact e
  exact h3 this
/-! a law that doesn't look at the hour -/
def alike (L : Law) : Prop := ∀ (kind : Int32) (j : Nat) (D T W : Nat → Int32) (oth ko th hr hr' rn : Int32), ansF L kind (lwF j D T W oth ko th hr rn) = ansF L kind (lwF j D T W oth ko th hr' rn)
theorem toldG_alike {L : Law} (h : alike L) (D T W : Nat → Int32) (hr hr' rn : Int32) : toldG L D T W hr rn = toldG L D T W hr' rn := by
  funext j o
  unfold toldG
  rw [h 0 j D T W (nI o) (D o) (-1) hr hr' rn]
  have : (fun th => ansF L 2 (lwF j D T W (nI o) (D o) (nI th) hr rn)) = (fun th => ansF L 2 (lwF j D T W (nI o) (D o) (nI th) hr' rn)) := by
    funext th
    exact h 2 j D T W (nI o) (D o) (nI th) hr hr' rn
  rw [this]
theorem itG_still {L : Law} (h : alike L) (D T P : Nat → Int32) {n : Nat} (rn : Int32) : ∀ (k : Nat) (s : (Nat → Int32) × Int32), (∀ j, j < n → hourG L D T P n rn s j = 0) → itG L D T P n rn k s = (s.1, s.2 + nI k)
  | 0, s, _ => by
    show s = (s.1, s.2 + nI 0)
    rw [show nI 0 = (0 : Int32) from rfl, Int32.add_zero]
  | k + 1, s, hz => by
    have e : stepG L D T P n rn s = (s.1, s.2 + 1) := by
      unfold stepG
      have : (fun k => if k < n then s.1 k ||| hourG L D T P n rn s k else s.1 k) = s.1 := by
        funext j
        by_cases c : j < n
        · rw [if_pos c, hz j c, Int32.or_zero]
        · rw [if_neg c]
      rw [this]
    show itG L D T P n rn k (stepG L D T P n rn s) = _
    rw [e, itG_still h D T P rn k (s.1, s.2 + 1) (by
      intro j hj
      have := hz j hj
      unfold hourG at this ⊢
      rw [toldG_alike h D T s.1 (s.2 + 1) s.2 rn]
      exact this)]
    have : s.2 + 1 + nI k = s.2 + nI (k + 1) := by
      rw [nI_succ, Int32.add_comm (nI k) 1, Int32.add_assoc]
    rw [this]
theorem asks_eq {x : Int32} (h1 : x &&& 15 = 1) (h2 : (x >>> (4 &&& 31)).toNatClampNeg = 7) : x = 113 := by
  have e1 : (x >>> (4 &&& 31)).toInt = x.toInt >>> 4 := pk_shr x (4 &&& 31) 4 (by decide)
  have e2 : x &&& 15 = nI (x.toBitVec.toNat % 2 ^ 4) := pk_and x 4 (by decide)
  rw [h1] at e2
  have e3 : x.toBitVec.toNat % 16 = 1 := by
    have : nI 1 = nI (x.toBitVec.toNat % 2 ^ 4) := e2
    rw [n_eq (by omega) (by omega)] at this
    exact this.symm
  have e4 : x.toInt >>> 4 = 7 := by
    rw [← e1]
    have : (x >>> (4 &&& 31)).toInt.toNat = 7 := h2
    omega
  have e5 : x.toInt / 16 = 7 := by
    rw [Int.shiftRight_eq_div_pow] at e4
    exact e4
  have e6 : x.toInt = x.toBitVec.toInt := rfl
  have e7 := BitVec.toInt_eq_toNat_cond x.toBitVec
  have e8 := x.toBitVec.isLt
  apply i32_inj
  show x.toInt = 113
  split at e7 <;> omega
theorem crun_indep (C : Nat → Int32) (E E' : Int32 → Int32) (hE : ∀ x, ¬ x.toNatClampNeg = 7 → E x = E' x) : ∀ (k i : Nat) (go : Int32) (top : Nat) (v : Int64) (s : Nat → Int64), (∀ j, i ≤ j → j < i + k → ¬ C j = 113) → crun C E k i go top v s = crun C E' k i go top v s
  | 0, _, _, _, _, _, _ => rfl
  | k + 1, i, go, top, v, s, h => by
    have ih : ∀ go top v s, crun C E k (i + 1) go top v s = crun C E' k (i + 1) go top v s := fun go top v s => crun_indep C E E' hE k (i + 1) go top v s (fun j q w => h j (by omega) (by omega))
    unfold crun
    simp only [ih]
    by_cases c : C i &&& 15 = 1
    · rw [hE _ (fun q => h i (by omega) (by omega) (asks_eq c q))]
    · simp only [if_neg c]
theorem lw_env (e : Nat → Int32) (he : ∀ k, e (k + 9) = 0) : msk 9 (fun x => e x.toNatClampNeg) = e := by
  funext k
  unfold msk
  by_cases c : k < 9
  · rw [if_pos c]
    show e (nI k).toNatClampNeg = e k
    rw [n_cl (by omega)]
  · rw [if_neg c]
    have := he (k - 9)
    rw [show k - 9 + 9 = k by omega] at this
    rw [this]
theorem lw_hour {j : Nat} {D T W : Nat → Int32} {oth ko th hr hr' rn : Int32} : ∀ k, ¬ k = 7 → lwF j D T W oth ko th hr rn k = lwF j D T W oth ko th hr' rn k
  | 0, _ => rfl
  | 1, _ => rfl
  | 2, _ => rfl
  | 3, _ => rfl
  | 4, _ => rfl
  | 5, _ => rfl
  | 6, _ => rfl
  | 7, h => absurd rfl h
  | 8, _ => rfl
  | _ + 9, _ => rfl
theorem seg_alike {c r lc len k : Nat} {Df : (Nat → Int32) → Option Int64} (hS : SegD M c r lc len 9 k Df) (hC : ∀ i, i < len → ¬ gI M c lc (nI i) = 113) {e e' : Nat → Int32} (he : ∀ k, e (k + 9) = 0) (he' : ∀ k, e' (k + 9) = 0) (h : ∀ k, ¬ k = 7 → e k = e' k) : Df e = Df e' := by
  obtain ⟨f, g, _, _, hfg, hgl, hD⟩ := hS
  have a1 := hD (fun x => e x.toNatClampNeg) (fun _ => 0)
  have a2 := hD (fun x => e' x.toNatClampNeg) (fun _ => 0)
  rw [lw_env e he] at a1
  rw [lw_env e' he'] at a2
  rw [← a1, ← a2]
  exact crun_indep _ _ _ (fun x hx => h _ hx) _ _ _ _ _ _ (fun j q w => hC j (by omega))
theorem text_alike {t c r lc lr len n : Nat} {cf : Nat → Cls} (HT : TextD M t c r lc lr len n cf) (hC : ∀ i, i < len → ¬ gI M c lc (nI i) = 113) : alike (some (n, cf)) := by
  intro kind j D T W oth ko th hr hr' rn
  show ansV kind (ansI cf kind _ n) = ansV kind (ansI cf kind _ n)
  have key : ∀ m, m ≤ n → ansI cf kind (lwF j D T W oth ko th hr rn) m = ansI cf kind (lwF j D T W oth ko th hr' rn) m := by
    intro m
    induction m with
    | zero => intro _; rfl
    | succ m ih =>
      intro hm
      obtain ⟨_, s1, s2⟩ := HT.2.2.2.2.2.2 m (by omega)
      have e1 := seg_alike s1 hC (e := lwF j D T W oth ko th hr rn) (e' := lwF j D T W oth ko th hr' rn) (fun _ => rfl) (fun _ => rfl) lw_hour
      have e2 := seg_alike s2 hC (e := lwF j D T W oth ko th hr rn) (e' := lwF j D T W oth ko th hr' rn) (fun _ => rfl) (fun _ => rfl) lw_hour
      show (if _ then _ else _) = (if _ then _ else _)
      rw [e1, e2, ih (by omega)]
  rw [key n (Nat.le_refl n)]
theorem asks_ok {t c r lc lr len n : Nat} {cf : Nat → Cls} (HT : TextD M t c r lc lr len n cf) : ∃ z : Int32, (z = 0 ∨ z = 1) ∧ (z = 0 → alike (some (n, cf))) ∧ ∀ (d : Nat) (Q : Option Value → hp → Prop), Wp none d 89 0 [(0, .ref t)] [] M Q = Q (some (.int z)) M := by
  have hlen := HT.2.2.1
  have hl := HT.2.1
  have h7 := HT.1.1
  have h64 : 64 ≤ c := HT.1.2.2.2.2.2.1
  have hc0 : hR M t 0 = c := HT.1.2.1
  have hkc : hK M c = (20, lc) := HT.1.2.2.2.1
  have hlc : lc ≤ 400 := HT.1.2.2.2.2.2.2.2.1
  have loop : ∀ (k i : Nat), i + k = len → (∀ j, j < i → ¬ gI M c lc (nI j) = 113) → ∃ z : Int32, (z = 0 ∨ z = 1) ∧ (z = 0 → ∀ j, j < len → ¬ gI M c lc (nI j) = 113) ∧ ∀ (d : Nat) (Q : Option Value → hp → Prop), Wp none d 89 2 [(0, .ref t), (1, .int (nI i))] [] M Q = Q (some (.int z)) M := by
    intro k
    induction k with
    | zero =>
      intro i e hz
      have : i = len := by omega
      subst this
      refine ⟨0, Or.inl rfl, fun _ => hz, fun d Q => ?_⟩
      rw [k89_2 h7, hl, k89_7, if_pos (by rw [n_le (by omega) (by omega)]; exact Nat.le_refl i), k89_31]
    | succ k ih =>
      intro i e hz
      have st : ∀ (d : Nat) (Q : Option Value → hp → Prop), Wp none d 89 2 [(0, .ref t), (1, .int (nI i))] [] M Q = if ¬ gI M c lc (nI i) = 113 then Wp none d 89 2 [(0, .ref t), (1, .int (nI (i + 1)))] [] M Q else Q (some (.int 1)) M := by
        intro d Q
        rw [k89_2 h7, hl, k89_7, if_neg (by rw [n_le (by omega) (by omega)]; omega), k89_10 h7 (by rw [hc0]; omega), hc0, k89_15, T_at hkc (by omega) (by omega)]
        simp only [oN]
        rw [k89_18, k89_20, k89_25, k89_23, nI_1]
      by_cases c1 : gI M c lc (nI i) = 113
      · refine ⟨1, Or.inr rfl, fun q => absurd q (by decide), fun d Q => ?_⟩
        rw [st, if_neg (fun q => q c1)]
      · obtain ⟨z, z1, z2, z3⟩ := ih (i + 1) (by omega) (by
          intro j hj
          by_cases y : j = i
          · rw [y]; exact c1
          · exact hz j (by omega))
        refine ⟨z, z1, z2, fun d Q => ?_⟩
        rw [st, if_pos c1, z3]
  obtain ⟨z, z1, z2, z3⟩ := loop len 0 (by omega) (fun j hj => absurd hj (by omega))
  refine ⟨z, z1, fun q => text_alike HT (z2 q), fun d Q => ?_⟩
  rw [k89_0]
  exact z3 d Q
