variable {d : Nat} {M : hp} {Q : Option Value → hp → Prop}
/-! cut() of the reference -/
theorem mHungBits {n : Nat} {D T P W : Nat → Int32} {hr rn : Int32} {L : Law} (X : RP M n D T P W hr rn L) : Wp none d 172 0 [(0, .ref 126)] [] M Q = Q (some (.int (hungF P n))) M := by
  have n7 := X.n7
  have key := for_up (W := fun i s => Wp none d 172 4 [(0, .ref 126), (1, .int s), (2, .int (nI i))] [] M Q) (f := fun i x => if P i = -1 then x else x ||| ((1 : Int32) <<< (nI i &&& 31))) (n := n) (fun i s hi => by
    show Wp none d 172 4 [(0, .ref 126), (1, .int s), (2, .int (nI i))] [] M Q = Wp none d 172 4 [(0, .ref 126), (1, .int (if P i = -1 then s else s ||| ((1 : Int32) <<< (nI i &&& 31)))), (2, .int (nI (i + 1)))] [] M Q
    rw [m172_4 X.F (by decide), show (0 : Int32).toNatClampNeg = 0 from rfl, X.n0, k172_11, if_neg (by rw [n_le (by omega) (by omega)]; omega), k172_14, k172_17 (m_9 X.F), mHung X (by omega)]
    simp only [oM]
    rw [k172_20]
    by_cases c : P i = -1
    · rw [if_pos (by rw [bz_eq0]; exact fun q => q c), k172_29, k172_30, nI_1, if_pos c, show s ||| 0 = s from Int32.or_zero]
    · rw [if_neg (by rw [bz_eq0]; exact fun q => q c), k172_23, k172_30, nI_1, if_neg c]) n 0 0 (by omega)
  rw [k172_0]
  refine (show _ = _ from key).trans ?_
  show Wp none d 172 4 [(0, .ref 126), (1, .int (hungF P n)), (2, .int (nI n))] [] M Q = _
  rw [m172_4 X.F (by decide), show (0 : Int32).toNatClampNeg = 0 from rfl, X.n0, k172_11, if_pos (by rw [n_le (by omega) (by omega)]; omega), k172_38]
theorem RP_off {n : Nat} {s : Int32} {D T P W : Nat → Int32} {hr rn : Int32} {L : Law} (X : RP M n D T P W hr rn L) : RP (sIs M 128 7 n (fun i => if (s >>> (nI i &&& 31)) &&& 1 = 1 then -1 else hI M 128 (7 + i))) n D T (offF P n s) W hr rn L := by
  have n7 := X.n7
  refine ⟨X.F, by rw [hI_sIs_a (by decide)]; exact X.o20, by rw [hI_sIs_a (by decide)]; exact X.o0, MLaw_47 X.law (hI_sIs_k (by omega)) (fun l hl => hI_sIs_k (by omega)), by rw [hI_sIs_k (by omega)]; exact X.n0, X.n7, fun i hi => by rw [hI_sIs_k (by omega)]; exact X.rD i hi, fun i hi => by rw [hI_sIs_k (by omega)]; exact X.rT i hi, fun i hi => ?_, fun i hi => by rw [hI_sIs_k (by omega)]; exact X.rW i hi, by rw [hI_sIs_k (by omega)]; exact X.rh, by rw [hI_sIs_k (by omega)]; exact X.rr⟩
  unfold offF
  by_cases c : i < n
  · rw [hI_sIs_s c]
    by_cases c2 : (s >>> (nI i &&& 31)) &&& 1 = 1
    · rw [if_pos c2, if_pos ⟨c, c2⟩]
    · rw [if_neg c2, if_neg (fun q => c2 q.2)]
      exact X.rP i hi
  · rw [hI_sIs_k (by omega), if_neg (fun q => c q.1)]
    exact X.rP i hi
theorem mWould {M0 : hp} {n j : Nat} {t s : Int32} {D T P W : Nat → Int32} {hr rn : Int32} {L : Law} (X0 : RP M0 n D T P W hr rn L) (HP : PegS P n) (hj : j < 7) (pp : PpR M0 M) (qq : Qry M0 M) (H : ∀ M', Qry M0 M' → PpR M0 M' → Q (some (.int (bz (knw (papG L n D T W hr rn (offF P n s) 60) j t)))) M') : Wp none d 241 0 [(0, .ref 126), (1, .int (nI j)), (2, .int t), (3, .int s)] [] M Q := by
  have X := RP_Qry X0 qq
  have n7 := X.n7
  let g : Nat → Int32 := fun i => if (s >>> (nI i &&& 31)) &&& 1 = 1 then -1 else hI M 128 (7 + i)
  have key := for_0 (W := fun i => Wp none d 241 3 [(0, .ref 126), (1, .int (nI j)), (2, .int t), (3, .int s), (4, .int (nI i))] [] (sIs M 128 7 i g) Q) (n := n) (fun i hi => by
    have e7 : (7 : Int32) + nI i = nI (7 + i) := by rw [show (7 : Int32) = nI 7 from rfl, nI_add]
    have F' : MF (sIs M 128 7 i g) := X.F
    show Wp none d 241 3 [(0, .ref 126), (1, .int (nI j)), (2, .int t), (3, .int s), (4, .int (nI i))] [] (sIs M 128 7 i g) Q = Wp none d 241 3 [(0, .ref 126), (1, .int (nI j)), (2, .int t), (3, .int s), (4, .int (nI (i + 1)))] [] (sIs M 128 7 (i + 1) g) Q
    rw [m241_3 F' (by decide), show (0 : Int32).toNatClampNeg = 0 from rfl, hI_sIs_k (by omega), X.n0, k241_11, if_neg (by rw [n_le (by omega) (by omega)]; omega), m241_14 F', k241_26, mIs]
    simp only [oM]
    rw [k241_29]
    by_cases c : (s >>> (nI i &&& 31)) &&& 1 = 1
    · rw [if_neg (by rw [bz_eq0]; exact fun q => q c), k241_32, m241_46 F' (by rw [m_K128 F']) (by rw [m_K128 F', e7]; exact v54 (by omega)), e7, n_cl (by omega), show (-1 : Int32) = g i from (if_pos c).symm, sIs_1, k241_47, nI_1]
    · rw [if_pos (by rw [bz_eq0]; exact c), m241_36 F' (by rw [e7]; exact v54 (by omega)), e7, n_cl (by omega), hI_sIs_k (by omega), m241_46 F' (by rw [m_K128 F']) (by rw [m_K128 F']; exact v54 (by omega)), n_cl (by omega), show hI M 128 (7 + i) = g i from (if_neg c).symm, sIs_1, k241_47, nI_1]) n 0 (by omega)
  have F3 : MF (sIs M 128 7 n g) := X.F
  rw [k241_0]
  have key2 : Wp none d 241 3 [(0, .ref 126), (1, .int (nI j)), (2, .int t), (3, .int s), (4, .int 0)] [] M Q = Wp none d 241 3 [(0, .ref 126), (1, .int (nI j)), (2, .int t), (3, .int s), (4, .int (nI n))] [] (sIs M 128 7 n g) Q := by
    have := key
    simp only [sIs_0] at this
    exact this
  rw [key2, m241_3 F3 (by decide), show (0 : Int32).toNatClampNeg = 0 from rfl, hI_sIs_k (by omega), X.n0, k241_11, if_pos (by rw [n_le (by omega) (by omega)]; omega), k241_53, k241_56 (m_9 F3)]
  have p1 : PpR M0 (sIs M 128 7 n g) := ⟨EX_trans pp.1 (EX_sIs (by decide) (by decide)), fun i hi => by rw [hI_sIs_a (by decide)]; exact pp.2.1 i hi, fun l hl => by rw [hI_sIs_k (by omega)]; exact pp.2.2.1 l hl, fun l hl => by rw [hI_sIs_a (by decide)]; exact pp.2.2.2 l hl⟩
  refine mLive (N := 60) (by omega) (RP_off X) (pegS_offF HP) (fun M2 b2 X2 fr2 => ?_)
  simp only [oZ]
  rw [k241_59, k241_62 (m_9 X2.F), mKnows X2 hj]
  simp only [oN]
  rw [k241_65, k241_70 (m_9 X2.F)]
  refine mPut16 X2.F (PpR_hour p1 b2 fr2) (fun M3 q3 p3 => ?_)
  simp only [oZ]
  rw [k241_73 (bz_or _)]
  exact H M3 q3 p3
def ctStG (L : Law) (n : Nat) (D T P W : Nat → Int32) (hr rn : Int32) (j : Nat) (th : Int32) (O s : Nat) (b : Int32) : Int32 :=
  if nI s &&& (nI O ^^^ (-1)) = 0 ∧ mny (nI s) < mny b then (if (papG L n D T W hr rn (offF P n (nI s)) 60 j >>> (th &&& 31)) &&& 1 = 1 then b else nI s) else b
def ctG (L : Law) (n : Nat) (D T P W : Nat → Int32) (hr rn : Int32) (j : Nat) (th : Int32) (O : Nat) : Int32 := fo (ctStG L n D T P W hr rn j th O) 0 O (nI O)
def ctN (L : Law) (n : Nat) (D T P W : Nat → Int32) (hr rn : Int32) (j : Nat) (th : Int32) (O s : Nat) (a : Int32 × Int32) : Int32 × Int32 :=
  if nI s &&& (nI O ^^^ (-1)) = 0 ∧ ¬ a.1 ≤ mny (nI s) ∧ ¬ knw (papG L n D T W hr rn (offF P n (nI s)) 60) j th then (mny (nI s), nI s) else a
theorem ct_loop {M0 : hp} {n j O : Nat} {t w : Int32} {D T P W : Nat → Int32} {hr rn : Int32} {L : Law} (X0 : RP M0 n D T P W hr rn L) (HP : PegS P n) (hj : j < 7) : ∀ (k s : Nat) (a : Int32 × Int32) (M : hp), s + k = 128 → PpR M0 M → Qry M0 M → (∀ M', Qry M0 M' → Q (some (.int (if w = 0 then (fo (ctN L n D T P W hr rn j t O) s k a).1 else (fo (ctN L n D T P W hr rn j t O) s k a).2))) M') → Wp none d 242 70 [(0, .ref 126), (1, .int (nI j)), (2, .int t), (3, .int w), (4, .int (nI O)), (5, .int a.1), (6, .int a.2), (7, .int (nI s))] [] M Q
  | 0, s, a, M, e, pp, qq, H => by
    rw [k242_70, k242_75, show (128 : Int32) = nI 128 from rfl, if_pos (by rw [n_le (by omega) (by omega)]; omega), k242_126, k242_127]
    have H1 := H M qq
    by_cases c : w = 0
    · rw [if_pos c] at H1
      rw [if_neg (fun q => q c), k242_130, k242_137]
      exact H1
    · rw [if_neg c] at H1
      rw [if_pos c, k242_135, k242_137]
      exact H1
  | k + 1, s, a, M, e, pp, qq, H => by
    have X := RP_Qry X0 qq
    have nx : ∀ (a' : Int32 × Int32) (M1 : hp), PpR M0 M1 → Qry M0 M1 → ctN L n D T P W hr rn j t O s a = a' → Wp none d 242 120 [(0, .ref 126), (1, .int (nI j)), (2, .int t), (3, .int w), (4, .int (nI O)), (5, .int a'.1), (6, .int a'.2), (7, .int (nI s))] [] M1 Q := by
      intro a' M1 p1 q1 ea
      rw [k242_120, nI_1]
      refine ct_loop X0 HP hj k (s + 1) a' M1 (by omega) p1 q1 ?_
      rw [← ea]
      exact H
    rw [k242_70, k242_75, show (128 : Int32) = nI 128 from rfl, if_neg (by rw [n_le (by omega) (by omega)]; omega), k242_78, k242_85]
    by_cases c : nI s &&& (nI O ^^^ (-1)) = 0
    case neg =>
      rw [if_pos c]
      exact nx a M pp qq (by unfold ctN; rw [if_neg (fun q => c q.1)])
    rw [if_neg (fun q => q c), k242_88, k242_90, mMany]
    simp only [oN]
    rw [k242_93, k242_95]
    by_cases c2 : a.1 ≤ mny (nI s)
    · rw [if_pos c2]
      exact nx a M pp qq (by unfold ctN; rw [if_neg (fun q => q.2.1 c2)])
    rw [if_neg c2, k242_98, k242_103 (m_9 X.F)]
    refine mWould X0 HP hj pp qq (fun M2 q2 p2 => ?_)
    simp only [oN]
    rw [k242_106]
    by_cases c3 : knw (papG L n D T W hr rn (offF P n (nI s)) 60) j t
    · rw [if_pos (by rw [bz_eq0]; exact fun q => q c3)]
      exact nx a M2 p2 q2 (by unfold ctN; rw [if_neg (fun q => q.2.2 c3)])
    · rw [if_neg (by rw [bz_eq0]; exact fun q => q c3), k242_109, k242_111, mMany]
      simp only [oN]
      rw [k242_114]
      exact nx (mny (nI s), nI s) M2 p2 q2 (by unfold ctN; rw [if_pos ⟨c, c2, c3⟩])
/-! the same hats as the class picks -/
theorem fo_split {α : Type} {f : Nat → α → α} : ∀ (k i m : Nat) (a : α), fo f i (k + m) a = fo f (i + k) m (fo f i k a)
  | 0, i, m, a => by rw [Nat.zero_add]; rfl
  | k + 1, i, m, a => by
    rw [show k + 1 + m = (k + m) + 1 by omega]
    show fo f (i + 1) (k + m) (f i a) = _
    rw [fo_split k (i + 1) m (f i a), show i + 1 + k = i + (k + 1) by omega]
    rfl
theorem sub_le : ∀ O, O < 128 → ∀ s, s < 128 → nI s &&& (nI O ^^^ (-1)) = 0 → s ≤ O ∧ (s < O → mny (nI s) < mny (nI O)) := by decide +kernel
theorem far_big : ∀ s, s < 128 → ¬ (100000000 : Int32) ≤ mny (nI s) := by decide +kernel
def ctR (O s : Nat) (a : Int32 × Int32) (b : Int32) : Prop := (a.1 = 100000000 ∧ b = nI O) ∨ ∃ c, c < s ∧ nI c &&& (nI O ^^^ (-1)) = 0 ∧ b = nI c ∧ a = (mny (nI c), nI c)
theorem ct_inv {n j O : Nat} {t : Int32} {D T P W : Nat → Int32} {hr rn : Int32} {L : Law} (hO : O < 128) : ∀ s, s ≤ O → ctR O s (fo (ctN L n D T P W hr rn j t O) 0 s (100000000, -1)) (fo (ctStG L n D T P W hr rn j t O) 0 s (nI O))
  | 0, _ => Or.inl ⟨rfl, rfl⟩
  | s + 1, h => by
    have ih := ct_inv (n := n) (j := j) (t := t) (D := D) (T := T) (P := P) (W := W) (hr := hr) (rn := rn) (L := L) hO s (by omega)
    rw [fo_end, fo_end, show 0 + s = s by omega]
    generalize fo (ctN L n D T P W hr rn j t O) 0 s (100000000, -1) = a at ih ⊢
    generalize fo (ctStG L n D T P W hr rn j t O) 0 s (nI O) = b at ih ⊢
    have keep : ctR O (s + 1) a b := by
      rcases ih with z | ⟨c, c1, c2⟩
      · exact Or.inl z
      · exact Or.inr ⟨c, by omega, c2⟩
    unfold ctN ctStG
    by_cases c1 : nI s &&& (nI O ^^^ (-1)) = 0
    case neg =>
      rw [if_neg (fun q => c1 q.1), if_neg (fun q => c1 q.1)]
      exact keep
    have e : (¬ a.1 ≤ mny (nI s)) ↔ mny (nI s) < mny b := by
      rcases ih with ⟨z1, z2⟩ | ⟨c, y1, y2, y3, y4⟩
      · rw [z1, z2]
        exact ⟨fun _ => (sub_le O hO s (by omega) c1).2 (by omega), fun _ => far_big s (by omega)⟩
      · rw [y3, y4]
        exact Int32.not_le
    by_cases c2 : mny (nI s) < mny b
    case neg =>
      rw [if_neg (fun q => c2 (e.mp q.2.1)), if_neg (fun q => c2 q.2)]
      exact keep
    rw [if_pos (c := nI s &&& (nI O ^^^ (-1)) = 0 ∧ mny (nI s) < mny b) ⟨c1, c2⟩]
    by_cases c3 : (papG L n D T W hr rn (offF P n (nI s)) 60 j >>> (t &&& 31)) &&& 1 = 1
    · rw [if_neg (fun q => q.2.2 c3), if_pos c3]
      exact keep
    · rw [if_pos ⟨c1, e.mpr c2, c3⟩, if_neg c3]
      exact Or.inr ⟨s, by omega, c1, rfl, rfl⟩
theorem ct_same {n j O : Nat} {t : Int32} {D T P W : Nat → Int32} {hr rn : Int32} {L : Law} (hO : O < 128) (hg : ¬ knw (papG L n D T W hr rn (offF P n (nI O)) 60) j t) : fo (ctN L n D T P W hr rn j t O) 0 128 (100000000, -1) = (mny (ctG L n D T P W hr rn j t O), ctG L n D T P W hr rn j t O) := by
  have inv := ct_inv (n := n) (j := j) (t := t) (D := D) (T := T) (P := P) (W := W) (hr := hr) (rn := rn) (L := L) hO O (Nat.le_refl O)
  have sub : nI O &&& (nI O ^^^ (-1)) = 0 := by
    apply b_ext
    intro i hi
    rw [b_and, b_xor, b_m1 i hi, b_0]
    cases bt (nI O) i <;> rfl
  rw [show 128 = O + ((127 - O) + 1) by omega, fo_split]
  show fo _ (0 + O) ((127 - O) + 1) _ = _
  rw [show 0 + O = O by omega]
  show fo (ctN L n D T P W hr rn j t O) (O + 1) (127 - O) (ctN L n D T P W hr rn j t O O (fo (ctN L n D T P W hr rn j t O) 0 O (100000000, -1))) = _
  have at_O : ctN L n D T P W hr rn j t O O (fo (ctN L n D T P W hr rn j t O) 0 O (100000000, -1)) = (mny (ctG L n D T P W hr rn j t O), ctG L n D T P W hr rn j t O) := by
    unfold ctG
    generalize fo (ctN L n D T P W hr rn j t O) 0 O (100000000, -1) = a at inv ⊢
    generalize fo (ctStG L n D T P W hr rn j t O) 0 O (nI O) = b at inv ⊢
    rcases inv with ⟨z1, z2⟩ | ⟨c, y1, y2, y3, y4⟩
    · unfold ctN
      rw [if_pos ⟨sub, by rw [z1]; exact far_big O hO, hg⟩, z2]
    · have := (sub_le O hO c (by omega) y2).2 y1
      unfold ctN
      rw [y4]
      rw [if_neg (fun q => q.2.1 (by show mny (nI c) ≤ mny (nI O); rw [fa_lt] at this; rw [fa_le]; omega)), y3]
  rw [at_O]
  generalize (mny (ctG L n D T P W hr rn j t O), ctG L n D T P W hr rn j t O) = z
  have : ∀ (k i : Nat), O < i → i + k = 128 → fo (ctN L n D T P W hr rn j t O) i k z = z := by
    intro k
    induction k with
    | zero => intro i _ _; rfl
    | succ k ih =>
      intro i hi e
      show fo _ (i + 1) k (ctN L n D T P W hr rn j t O i z) = z
      rw [show ctN L n D T P W hr rn j t O i z = z from by
        unfold ctN
        rw [if_neg (fun q => by have := (sub_le O hO i (by omega) q.1).1; omega)]]
      exact ih (i + 1) (by omega) (by omega)
  exact this (127 - O) (O + 1) (by omega) (by omega)
