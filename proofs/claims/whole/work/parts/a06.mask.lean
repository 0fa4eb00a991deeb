variable {d : Nat} {M : hp} {Q : Option Value → hp → Prop}
/-! talkative(), canBe() and ask() of the reference -/
theorem mBesideOf {n h : Nat} {D T P W : Nat → Int32} {hr rn : Int32} {L : Law} (X : RP M n D T P W hr rn L) (HP : PegS P n) (hh : h < n) : Wp none d 224 0 [(0, .ref 126), (1, .int (nI h))] [] M Q = Q (some (.int (if P h = -1 then 0 else atG (fun _ => 1) (hatF n P (P h - 1)) + atG (fun _ => 1) (hatF n P (P h + 1))))) M := by
  have n7 := X.n7
  have key := for_up (W := fun i s => Wp none d 224 4 [(0, .ref 126), (1, .int (nI h)), (2, .int s), (3, .int (nI i))] [] M Q) (f := fun o s => s + (if ¬ o = h ∧ bsd P h o then 1 else 0)) (n := n) (fun i s hi => by
    show Wp none d 224 4 [(0, .ref 126), (1, .int (nI h)), (2, .int s), (3, .int (nI i))] [] M Q = Wp none d 224 4 [(0, .ref 126), (1, .int (nI h)), (2, .int (s + (if ¬ i = h ∧ bsd P h i then 1 else 0))), (3, .int (nI (i + 1)))] [] M Q
    rw [m224_4 X.F (by decide), show (0 : Int32).toNatClampNeg = 0 from rfl, X.n0, k224_11, if_neg (by rw [n_le (by omega) (by omega)]; omega), k224_14, k224_17]
    by_cases c : i = h
    · rw [if_pos (by rw [c]), k224_33, k224_34, nI_1, if_neg (fun q => q.1 c)]
    · rw [if_neg (by rw [n_eq (by omega) (by omega)]; exact c), k224_20, k224_23 (m_9 X.F), mBeside X (by omega) (by omega)]
      simp only [oM]
      rw [k224_26]
      by_cases c2 : bsd P h i
      · rw [if_neg (by rw [bz_eq0]; exact fun q => q c2), k224_29, k224_34, nI_1, if_pos ⟨c, c2⟩]
      · rw [if_pos (by rw [bz_eq0]; exact c2), k224_33, k224_34, nI_1, if_neg (fun q => c2 q.2)]) n 0 0 (by omega)
  rw [k224_0]
  refine (show _ = _ from key).trans ?_
  show Wp none d 224 4 [(0, .ref 126), (1, .int (nI h)), (2, .int (fo (fun o s => s + (if ¬ o = h ∧ bsd P h o then 1 else 0)) 0 n 0)), (3, .int (nI n))] [] M Q = _
  rw [m224_4 X.F (by decide), show (0 : Int32).toNatClampNeg = 0 from rfl, X.n0, k224_11, if_pos (by rw [n_le (by omega) (by omega)]; omega), k224_42, near_sum HP n7 hh (fun _ => 1)]
/-- how many thoughts a hat tells to those beside it -/
def tlkG (L : Law) (n : Nat) (D T P W : Nat → Int32) (hr rn : Int32) (h : Nat) : Int32 := if P h = -1 then 0 else atG (fun o => mny (toldG L D T W hr rn h o)) (hatF n P (P h - 1)) + atG (fun o => mny (toldG L D T W hr rn h o)) (hatF n P (P h + 1))
def tkSt (L : Law) (n : Nat) (D T P W : Nat → Int32) (hr rn : Int32) (h : Nat) (s : Int32 × Int32) : Int32 × Int32 := if tlkG L n D T P W hr rn h ≤ s.1 then s else (tlkG L n D T P W hr rn h, nI h)
def talkG (L : Law) (n : Nat) (D T P W : Nat → Int32) (hr rn : Int32) (w : Int32) : Int32 := if 0 ≤ w ∧ w ≤ 1 then (if w = 0 then (fo (tkSt L n D T P W hr rn) 0 n (-1, -1)).2 else (fo (tkSt L n D T P W hr rn) 0 n (-1, -1)).1) else -1
theorem ti_loop {n h : Nat} {x1 x2 x3 : Int32} {D T P W : Nat → Int32} {hr rn : Int32} {L : Law} {M0 : hp} (X0 : RP M0 n D T P W hr rn L) (hh : h < n) (v : Int32) (K : ∀ M', EC M0 M' → Wp none d 248 96 [(0, .ref 126), (1, .int x1), (2, .int x2), (3, .int x3), (4, .int (nI h)), (5, .int v), (6, .int (nI n))] [] M' Q) : ∀ (k o : Nat) (s : Int32) (M : hp), o + k = n → EC M0 M → fo (fun o s => s + (if ¬ o = h ∧ bsd P h o then mny (toldG L D T W hr rn h o) else 0)) o k s = v → Wp none d 248 41 [(0, .ref 126), (1, .int x1), (2, .int x2), (3, .int x3), (4, .int (nI h)), (5, .int s), (6, .int (nI o))] [] M Q := by
  have n7 := X0.n7
  intro k
  induction k with
  | zero =>
    intro o s M e b hv
    have X := RP_EC X0 b
    have : o = n := by omega
    subst this
    have hv : s = v := hv
    rw [hv, m248_41 X.F (by decide), show (0 : Int32).toNatClampNeg = 0 from rfl, X.n0, k248_49, if_pos (by rw [n_le (by omega) (by omega)]; omega)]
    exact K M b
  | succ k ih =>
    intro o s M e b hv
    have X := RP_EC X0 b
    have hv : fo (fun o s => s + (if ¬ o = h ∧ bsd P h o then mny (toldG L D T W hr rn h o) else 0)) (o + 1) k (s + (if ¬ o = h ∧ bsd P h o then mny (toldG L D T W hr rn h o) else 0)) = v := hv
    rw [m248_41 X.F (by decide), show (0 : Int32).toNatClampNeg = 0 from rfl, X.n0, k248_49, if_neg (by rw [n_le (by omega) (by omega)]; omega), k248_52, k248_58]
    have z : ¬ (¬ o = h ∧ bsd P h o) → Wp none d 248 86 [(0, .ref 126), (1, .int x1), (2, .int x2), (3, .int x3), (4, .int (nI h)), (5, .int s), (6, .int (nI o))] [.int s] M Q := by
      intro c
      rw [if_neg c] at hv
      rw [k248_86, k248_87, nI_1]
      exact ih (o + 1) _ M (by omega) b hv
    by_cases c : o = h
    · rw [if_pos (by rw [c])]
      exact z (fun q => q.1 c)
    · rw [if_neg (by rw [n_eq (by omega) (by omega)]; exact c), k248_61, k248_66 (m_9 X.F), mBeside X (by omega) (by omega)]
      simp only [oM]
      rw [k248_69]
      by_cases c2 : bsd P h o
      · rw [if_pos ⟨c, c2⟩] at hv
        rw [if_neg (by rw [bz_eq0]; exact fun q => q c2), k248_72, k248_77 (m_9 X.F)]
        refine mToldBy X (by omega) (by omega) (fun M' b' => ?_)
        simp only [oM]
        rw [k248_80, mMany]
        simp only [oM]
        rw [k248_83, k248_87, nI_1]
        exact ih (o + 1) _ M' (by omega) (EC_trans b b') hv
      · rw [if_pos (by rw [bz_eq0]; exact c2)]
        exact z (fun q => c2 q.2)
theorem to_loop {n : Nat} {w : Int32} {D T P W : Nat → Int32} {hr rn : Int32} {L : Law} {M0 : hp} (X0 : RP M0 n D T P W hr rn L) (HP : PegS P n) : ∀ (k h : Nat) (s : Int32 × Int32) (M : hp), h + k = n → EC M0 M → (∀ M', EC M0 M' → Q (some (.int (if w = 0 then (fo (tkSt L n D T P W hr rn) h k s).2 else (fo (tkSt L n D T P W hr rn) h k s).1))) M') → Wp none d 248 24 [(0, .ref 126), (1, .int w), (2, .int s.1), (3, .int s.2), (4, .int (nI h))] [] M Q := by
  have n7 := X0.n7
  intro k
  induction k with
  | zero =>
    intro h s M e b H
    have X := RP_EC X0 b
    have H1 := H M b
    rw [m248_24 X.F (by decide), show (0 : Int32).toNatClampNeg = 0 from rfl, X.n0, k248_32, if_pos (by rw [n_le (by omega) (by omega)]; omega), k248_128, k248_129]
    by_cases c : w = 0
    · rw [if_pos c] at H1
      rw [if_neg (fun q => q c), k248_132, k248_137]
      exact H1
    · rw [if_neg c] at H1
      rw [if_pos c, k248_136, k248_137]
      exact H1
  | succ k ih =>
    intro h s M e b H
    have X := RP_EC X0 b
    have hs := near_sum HP n7 (show h < n by omega) (fun o => mny (toldG L D T W hr rn h o))
    rw [m248_24 X.F (by decide), show (0 : Int32).toNatClampNeg = 0 from rfl, X.n0, k248_32, if_neg (by rw [n_le (by omega) (by omega)]; omega), k248_35]
    refine ti_loop X (by omega) (tlkG L n D T P W hr rn h) (fun M' b' => ?_) n 0 0 M (by omega) (EC_refl M) hs
    rw [k248_96, k248_99]
    by_cases c : tlkG L n D T P W hr rn h ≤ s.1
    · rw [if_pos c, k248_107, k248_108, k248_112, if_pos c, k248_120, k248_121, nI_1]
      refine ih (h + 1) s M' (by omega) (EC_trans b b') ?_
      rw [show fo (tkSt L n D T P W hr rn) h (k + 1) s = fo (tkSt L n D T P W hr rn) (h + 1) k s from by
        show fo _ (h + 1) k (tkSt L n D T P W hr rn h s) = _
        unfold tkSt
        rw [if_pos c]] at H
      exact H
    · rw [if_neg c, k248_102, k248_108, k248_112, if_neg c, k248_115, k248_121, nI_1]
      refine ih (h + 1) (tlkG L n D T P W hr rn h, nI h) M' (by omega) (EC_trans b b') ?_
      rw [show fo (tkSt L n D T P W hr rn) h (k + 1) s = fo (tkSt L n D T P W hr rn) (h + 1) k (tlkG L n D T P W hr rn h, nI h) from by
        show fo _ (h + 1) k (tkSt L n D T P W hr rn h s) = _
        rw [show tkSt L n D T P W hr rn h s = (tlkG L n D T P W hr rn h, nI h) from if_neg c]] at H
      exact H
theorem mTalk {n : Nat} {w : Int32} {D T P W : Nat → Int32} {hr rn : Int32} {L : Law} (X : RP M n D T P W hr rn L) (HP : PegS P n) (H : ∀ M', Qry M M' → Q (some (.int (talkG L n D T P W hr rn w))) M') : Wp none d 248 0 [(0, .ref 126), (1, .int w)] [] M Q := by
  unfold talkG at H
  rw [k248_0 (m_9 X.F), o0_id X, k248_5, k248_9, mIn, in_lit (x := 0) (y := 1) (a := 0) (b := 1) rfl rfl]
  simp only [oN]
  rw [k248_12]
  by_cases c : 0 ≤ w ∧ w ≤ 1
  · rw [if_pos c] at H
    rw [if_pos (by rw [bz_eq0]; exact fun q => q c), k248_17]
    exact to_loop X HP n 0 (-1, -1) M (by omega) (EC_refl M) (fun M' b => H M' (Qry_EC b))
  · rw [if_neg c] at H
    rw [if_neg (by rw [bz_eq0]; exact fun q => q c), k248_15]
    exact H M (Qry_refl M)
/-! what was heard -/
def RH (M : hp) (hc : Nat) (hk : Nat → Nat) (hb : Nat → Bool) : Prop := hI M 128 1 = nI hc ∧ hc ≤ 6 ∧ ∀ k, k < hc → hI M 128 (35 + 2 * k) = nI (hk k) ∧ hk k < 8 ∧ hI M 128 (35 + 2 * k + 1) = if hb k = true then 1 else 0
def kMask (hk : Nat → Nat) (hb : Nat → Bool) (v : Bool) (hc : Nat) : Int32 := fo (fun k x => if hb k = v then x ||| ((1 : Int32) <<< (nI (hk k) &&& 31)) else x) 0 hc 0
def soB (W : Nat → Int32) (h : Nat) (hk : Nat → Nat) (hb : Nat → Bool) : Nat → Bool
  | 0 => true
  | k + 1 => soB W h hk hb k && (decide (knw W h (nI (hk k))) == hb k)
def cbF (W : Nat → Int32) (n : Nat) (K U : Int32) : Int32 := fo (fun i x => if W i &&& K = K ∧ W i &&& U = 0 then x ||| ((1 : Int32) <<< (nI i &&& 31)) else x) 0 n 0
theorem and_bit {x : Int32} {t : Nat} (ht : t < 32) : (x &&& ((1 : Int32) <<< (nI t &&& 31)) = ((1 : Int32) <<< (nI t &&& 31)) ↔ bt x t = true) ∧ (x &&& ((1 : Int32) <<< (nI t &&& 31)) = 0 ↔ bt x t = false) := by
  constructor
  · constructor
    · intro h
      have : bt (x &&& ((1 : Int32) <<< (nI t &&& 31))) t = bt ((1 : Int32) <<< (nI t &&& 31)) t := by rw [h]
      rw [b_and, b_bit ht ht, decide_eq_true rfl, Bool.and_true] at this
      exact this
    · intro h
      apply b_ext
      intro i hi
      rw [b_and, b_bit ht hi]
      by_cases c : i = t
      · rw [c, h]; rfl
      · rw [decide_eq_false c, Bool.and_false]
  · constructor
    · intro h
      have : bt (x &&& ((1 : Int32) <<< (nI t &&& 31))) t = bt 0 t := by rw [h]
      rw [b_and, b_bit ht ht, decide_eq_true rfl, Bool.and_true, b_0] at this
      exact this
    · intro h
      apply b_ext
      intro i hi
      rw [b_and, b_bit ht hi, b_0]
      by_cases c : i = t
      · rw [c, h]; rfl
      · rw [decide_eq_false c, Bool.and_false]
theorem and_or_k {x a b : Int32} : x &&& (a ||| b) = a ||| b ↔ x &&& a = a ∧ x &&& b = b := by
  constructor
  · intro h
    have key : ∀ i, bt (x &&& (a ||| b)) i = bt (a ||| b) i := fun i => by rw [h]
    constructor
    · apply b_ext; intro i hi
      have := key i
      rw [b_and, b_or] at this
      rw [b_and]
      cases q : bt x i <;> cases q2 : bt a i <;> simp_all
    · apply b_ext; intro i hi
      have := key i
      rw [b_and, b_or] at this
      rw [b_and]
      cases q : bt x i <;> cases q2 : bt b i <;> simp_all
  · rintro ⟨h1, h2⟩
    apply b_ext; intro i hi
    have k1 : bt (x &&& a) i = bt a i := by rw [h1]
    have k2 : bt (x &&& b) i = bt b i := by rw [h2]
    rw [b_and] at k1 k2
    rw [b_and, b_or]
    cases q : bt x i <;> cases q2 : bt a i <;> cases q3 : bt b i <;> simp_all
theorem and_or_0 {x a b : Int32} : x &&& (a ||| b) = 0 ↔ x &&& a = 0 ∧ x &&& b = 0 := by
  constructor
  · intro h
    have key : ∀ i, bt (x &&& (a ||| b)) i = bt 0 i := fun i => by rw [h]
    constructor
    · apply b_ext; intro i hi
      have := key i
      rw [b_and, b_or, b_0] at this
      rw [b_and, b_0]
      cases q : bt x i <;> cases q2 : bt a i <;> simp_all
    · apply b_ext; intro i hi
      have := key i
      rw [b_and, b_or, b_0] at this
      rw [b_and, b_0]
      cases q : bt x i <;> cases q2 : bt b i <;> simp_all
  · rintro ⟨h1, h2⟩
    apply b_ext; intro i hi
    have k1 : bt (x &&& a) i = bt 0 i := by rw [h1]
    have k2 : bt (x &&& b) i = bt 0 i := by rw [h2]
    rw [b_and, b_0] at k1 k2
    rw [b_and, b_or, b_0]
    cases q : bt x i <;> cases q2 : bt a i <;> cases q3 : bt b i <;> simp_all
theorem so_mask {W : Nat → Int32} {h : Nat} {hk : Nat → Nat} {hb : Nat → Bool} : ∀ hc, (∀ k, k < hc → hk k < 8) → (soB W h hk hb hc = true ↔ W h &&& kMask hk hb true hc = kMask hk hb true hc ∧ W h &&& kMask hk hb false hc = 0)
  | 0, _ => by
    have e : kMask hk hb true 0 = 0 := rfl
    have e2 : kMask hk hb false 0 = 0 := rfl
    rw [e, e2]
    exact ⟨fun _ => ⟨Int32.and_zero, Int32.and_zero⟩, fun _ => rfl⟩
  | hc + 1, h8 => by
    have ih := so_mask (W := W) (h := h) (hk := hk) (hb := hb) hc (fun k q => h8 k (by omega))
    have hc8 := h8 hc (by omega)
    have s1 : kMask hk hb true (hc + 1) = if hb hc = true then kMask hk hb true hc ||| ((1 : Int32) <<< (nI (hk hc) &&& 31)) else kMask hk hb true hc := by
      unfold kMask
      rw [fo_end, Nat.zero_add]
    have s2 : kMask hk hb false (hc + 1) = if hb hc = false then kMask hk hb false hc ||| ((1 : Int32) <<< (nI (hk hc) &&& 31)) else kMask hk hb false hc := by
      unfold kMask
      rw [fo_end, Nat.zero_add]
    have kb : knw W h (nI (hk hc)) ↔ bt (W h) (hk hc) = true := tst (by omega)
    rw [s1, s2]
    unfold soB
    rw [Bool.and_eq_true, ih, beq_iff_eq]
    cases q : hb hc with
    | true =>
      rw [if_pos rfl, if_neg (by decide), and_or_k, (and_bit (by omega)).1, decide_eq_true_iff, kb]
      constructor
      · rintro ⟨⟨a1, a2⟩, a3⟩; exact ⟨⟨a1, a3⟩, a2⟩
      · rintro ⟨⟨a1, a3⟩, a2⟩; exact ⟨⟨a1, a2⟩, a3⟩
    | false =>
      rw [if_neg (by decide), if_pos rfl, and_or_0, (and_bit (by omega)).2, decide_eq_false_iff_not, kb, Bool.not_eq_true]
      constructor
      · rintro ⟨⟨a1, a2⟩, a3⟩; exact ⟨a1, a2, a3⟩
      · rintro ⟨a1, a2, a3⟩; exact ⟨⟨a1, a2⟩, a3⟩
