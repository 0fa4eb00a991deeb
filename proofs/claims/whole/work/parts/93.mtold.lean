variable {d : Nat} {M : hp} {Q : Option Value → hp → Prop}
/-! told(): the words, then the clauses -/
theorem mMany {x : Int32} : Wp none d 155 0 [(0, .int x)] [] M Q = Q (some (.int (mny x))) M := by
  have key := for_up (W := fun i s => Wp none d 155 4 [(0, .int x), (1, .int s), (2, .int (nI i))] [] M Q) (f := fun k s => s + ((x >>> (nI k &&& 31)) &&& 1)) (n := 8) (fun i s hi => by
    show Wp none d 155 4 [(0, .int x), (1, .int s), (2, .int (nI i))] [] M Q = Wp none d 155 4 [(0, .int x), (1, .int (s + ((x >>> (nI i &&& 31)) &&& 1))), (2, .int (nI (i + 1)))] [] M Q
    rw [k155_4, k155_7, show (8 : Int32) = nI 8 from rfl, lei (by omega) (by omega), if_neg (by omega), k155_10, nI_1]) 8 0 0 (by omega)
  rw [k155_0]
  refine (show _ = _ from key).trans ?_
  show Wp none d 155 4 [(0, .int x), (1, .int (mny x)), (2, .int (nI 8))] [] M Q = _
  rw [k155_4, k155_7, if_pos (by decide), k155_24]
/-- the law in force, in the reference's row -/
def MLaw (M : hp) (L : Law) : Prop := match L with
  | none => hI M 128 3 = -1
  | some (nc, cf) => ∃ n len, hI M 128 3 = nI n ∧ n < 6 ∧ len ≤ 400 ∧ nc ≤ 12 ∧ hI M 128 (47 + 900 * n + 1) = nI nc ∧ ∀ i, i < nc → rowR M (47 + 900 * n) len i (cf i)
/-- the words of a hat, another one, a thought -/
def mEnv (M : hp) (h : Nat) (oth th : Int32) : Nat → Int32 := lwF h (fun j => hI M 128 (21 + j)) (fun j => hI M 128 (28 + j)) (fun j => hI M 128 (14 + j)) oth (if oth = -1 then -1 else hI M 128 (21 + oth.toNatClampNeg)) th (hI M 128 4) (hI M 128 6)
def EC (M0 M' : hp) : Prop := agr [126, 144, 146] M0 M' ∧ (∀ k, ¬ k = 34 → ¬ k = 38 → hI M' 126 k = hI M0 126 k) ∧ (∀ k, ¬ k = 39 → ¬ k = 40 → hL M' 126 k = hL M0 126 k)
theorem EC_refl (M : hp) : EC M M := ⟨agr_refl _ _, fun _ _ _ => rfl, fun _ _ _ => rfl⟩
theorem EC_trans {M M1 M2 : hp} (h : EC M M1) (h2 : EC M1 M2) : EC M M2 := ⟨agr_trans h.1 h2.1, fun k q q2 => (h2.2.1 k q q2).trans (h.2.1 k q q2), fun k q q2 => (h2.2.2 k q q2).trans (h.2.2 k q q2)⟩
theorem EC_EB {M M1 : hp} (h : EB M M1) : EC M M1 := ⟨agr_mono h.1 (by intro x q; simp at q ⊢; omega), fun k _ q => h.2.1 k q, h.2.2⟩
theorem EC_34 {M : hp} {v : Int32} : EC M (sI M 126 34 v) := ⟨agr_sI (by decide), fun _ q _ => hI_sI_k q, fun _ _ _ => rfl⟩
theorem EC_w {M : hp} {k : Nat} {v : Int64} : EC M (sL M 144 k v) := ⟨agr_sL (by decide), fun _ _ _ => rfl, fun _ _ _ => hL_sL_a (by decide)⟩
def mTF (L : Law) (kind : Int32) (e : Nat → Int32) (wo : Int64) : Int64 := match L with
  | none => wo
  | some (nc, cf) => (ansI cf kind e nc).getD wo
theorem rowR_128 {M1 : hp} {A len i : Nat} {x : Cls} (h : rowR M A len i x) (e : hI M1 128 = hI M 128) : rowR M1 A len i x := by
  unfold rowR rOp rArg at *
  rw [e]
  exact h
theorem w_hs (M : hp) (k : Nat) (v : Int64) : hI (sL M 144 k v) = hI M := rfl
theorem w_1 : (1 : Int32).toNatClampNeg = 1 := rfl
theorem w_2 : (2 : Int32).toNatClampNeg = 2 := rfl
theorem w_3 : (3 : Int32).toNatClampNeg = 3 := rfl
theorem w_4 : (4 : Int32).toNatClampNeg = 4 := rfl
theorem w_5 : (5 : Int32).toNatClampNeg = 5 := rfl
theorem w_6 : (6 : Int32).toNatClampNeg = 6 := rfl
theorem w_7 : (7 : Int32).toNatClampNeg = 7 := rfl
theorem w_8 : (8 : Int32).toNatClampNeg = 8 := rfl
theorem w_9 : (9 : Int32).toNatClampNeg = 9 := rfl
/-- the first four words -/
def W4 (M1 M5 : hp) (e : Nat → Int32) : Prop := EC M1 M5 ∧ hI M5 = hI M1 ∧ MF M5 ∧ ∀ k, k < 4 → hL M5 144 (k + 1) = (e k).toInt64
theorem mTold_w {M1 : hp} {kind oth th : Int32} {h : Nat} {wo : Int64} (F1 : MF M1) (hh : h < 7) (H : ∀ M5, W4 M1 M5 (mEnv M1 h oth th) → Wp none d 219 89 [(0, .ref 126), (1, .int kind), (2, .int (nI h)), (3, .int oth), (4, .int th), (5, .long wo)] [] M5 Q) : Wp none d 219 30 [(0, .ref 126), (1, .int kind), (2, .int (nI h)), (3, .int oth), (4, .int th), (5, .long wo)] [] M1 Q := by
  have e21 : (21 : Int32) + nI h = nI (21 + h) := by rw [show (21 : Int32) = nI 21 from rfl, nI_add]
  have e28 : (28 : Int32) + nI h = nI (28 + h) := by rw [show (28 : Int32) = nI 28 from rfl, nI_add]
  have e14 : (14 : Int32) + nI h = nI (14 + h) := by rw [show (14 : Int32) = nI 14 from rfl, nI_add]
  have k21 : (nI (21 + h)).toNatClampNeg = 21 + h := n_cl (by omega)
  have k28 : (nI (28 + h)).toNatClampNeg = 28 + h := n_cl (by omega)
  have k14 : (nI (14 + h)).toNatClampNeg = 14 + h := n_cl (by omega)
  rw [m219_30 F1 (by decide), w_1]
  have F2 : MF (sL M1 144 1 (nI h).toInt64) := F1
  rw [m219_38 F2 (by rw [e21]; exact v54 (by omega)) (by decide), e21, k21]
  have F3 : MF (sL (sL M1 144 1 (nI h).toInt64) 144 2 (hI M1 128 (21 + h)).toInt64) := F1
  simp only [w_hs, w_1, w_2, w_3, w_4, w_5, w_6, w_7, w_8, w_9]
  rw [m219_54 F3 (by rw [e28]; exact v54 (by omega)) (by decide), e28, k28]
  have F4 : MF (sL (sL (sL M1 144 1 (nI h).toInt64) 144 2 (hI M1 128 (21 + h)).toInt64) 144 3 (hI M1 128 (28 + h)).toInt64) := F1
  simp only [w_hs, w_1, w_2, w_3, w_4, w_5, w_6, w_7, w_8, w_9]
  rw [m219_70 F4 (by rw [e14]; exact v54 (by omega)), e14, k14, k219_84, mMany]
  simp only [oM]
  rw [m219_87 F4 (by rw [m_K144 F4]) (by rw [m_K144 F4]; decide)]
  have F5 : MF (sL (sL (sL (sL M1 144 1 (nI h).toInt64) 144 2 (hI M1 128 (21 + h)).toInt64) 144 3 (hI M1 128 (28 + h)).toInt64) 144 4 (mny (hI M1 128 (14 + h))).toInt64) := F1
  simp only [w_hs, w_1, w_2, w_3, w_4, w_5, w_6, w_7, w_8, w_9]
  refine H _ ⟨EC_trans EC_w (EC_trans EC_w (EC_trans EC_w EC_w)), rfl, F5, ?_⟩
  intro k hk
  have e : k = 0 ∨ k = 1 ∨ k = 2 ∨ k = 3 := by omega
  rcases e with rfl | rfl | rfl | rfl
  · rw [hL_sL_k (by decide), hL_sL_k (by decide), hL_sL_k (by decide), hL_sL_s]; rfl
  · rw [hL_sL_k (by decide), hL_sL_k (by decide), hL_sL_s]; rfl
  · rw [hL_sL_k (by decide), hL_sL_s]; rfl
  · rw [hL_sL_s]; rfl
/-- the last words -/
theorem mTold_t {M5 : hp} {kind oth th : Int32} {h : Nat} {wo v : Int64} {e : Nat → Int32} (F5 : MF M5) (w5 : ∀ k, k < 4 → hL M5 144 (k + 1) = (e k).toInt64) (w50 : oth = e 4) (hv : v = (e 5).toInt64) (e6 : th = e 6) (e7 : hI M5 128 4 = e 7) (e8 : hI M5 128 6 = e 8) (H : ∀ M9, EC M5 M9 → hI M9 = hI M5 → MF M9 → (∀ k, k < 9 → hL M9 144 (k + 1) = (e k).toInt64) → Wp none d 219 164 [(0, .ref 126), (1, .int kind), (2, .int (nI h)), (3, .int oth), (4, .int th), (5, .long wo)] [] M9 Q) : Wp none d 219 124 [(0, .ref 126), (1, .int kind), (2, .int (nI h)), (3, .int oth), (4, .int th), (5, .long wo)] [.long v, .int 6, .ref 144] (sL M5 144 5 oth.toInt64) Q := by
  have F6 : MF (sL M5 144 5 oth.toInt64) := F5
  have F7 : MF (sL (sL M5 144 5 oth.toInt64) 144 6 v) := F5
  have F8 : MF (sL (sL (sL M5 144 5 oth.toInt64) 144 6 v) 144 7 th.toInt64) := F5
  have F9 : MF (sL (sL (sL (sL M5 144 5 oth.toInt64) 144 6 v) 144 7 th.toInt64) 144 8 (hI M5 128 4).toInt64) := F5
  rw [m219_124 F6 (by rw [m_K144 F6]) (by rw [m_K144 F6]; decide)]
  simp only [w_hs, w_1, w_2, w_3, w_4, w_5, w_6, w_7, w_8, w_9]
  rw [m219_125 F7 (by decide)]
  simp only [w_hs, w_1, w_2, w_3, w_4, w_5, w_6, w_7, w_8, w_9]
  rw [m219_135 F8 (by decide) (by decide)]
  simp only [w_hs, w_1, w_2, w_3, w_4, w_5, w_6, w_7, w_8, w_9]
  rw [m219_149 F9 (by decide) (by decide)]
  simp only [w_hs, w_1, w_2, w_3, w_4, w_5, w_6, w_7, w_8, w_9]
  refine H _ (EC_trans EC_w (EC_trans EC_w (EC_trans EC_w (EC_trans EC_w EC_w)))) rfl F5 ?_
  intro k hk
  by_cases k4 : k < 4
  · rw [hL_sL_k (by omega), hL_sL_k (by omega), hL_sL_k (by omega), hL_sL_k (by omega), hL_sL_k (by omega)]
    exact w5 k k4
  · have e' : k = 4 ∨ k = 5 ∨ k = 6 ∨ k = 7 ∨ k = 8 := by omega
    rcases e' with rfl | rfl | rfl | rfl | rfl
    · rw [hL_sL_k (by decide), hL_sL_k (by decide), hL_sL_k (by decide), hL_sL_k (by decide), hL_sL_s, w50]
    · rw [hL_sL_k (by decide), hL_sL_k (by decide), hL_sL_k (by decide), hL_sL_s, hv]
    · rw [hL_sL_k (by decide), hL_sL_k (by decide), hL_sL_s, e6]
    · rw [hL_sL_k (by decide), hL_sL_s, e7]
    · rw [hL_sL_s, e8]
/-- the words in the middle -/
theorem mTold_m {M5 : hp} {kind oth th : Int32} {h : Nat} {wo : Int64} {e : Nat → Int32} (F5 : MF M5) (ho : oth = -1 ∨ ∃ o, o < 7 ∧ oth = nI o) (w5 : ∀ k, k < 4 → hL M5 144 (k + 1) = (e k).toInt64) (w50 : oth = e 4) (e5 : (if oth = -1 then -1 else hI M5 128 (21 + oth.toNatClampNeg)) = e 5) (e6 : th = e 6) (e7 : hI M5 128 4 = e 7) (e8 : hI M5 128 6 = e 8) (H : ∀ M9, EC M5 M9 → hI M9 = hI M5 → MF M9 → (∀ k, k < 9 → hL M9 144 (k + 1) = (e k).toInt64) → Wp none d 219 164 [(0, .ref 126), (1, .int kind), (2, .int (nI h)), (3, .int oth), (4, .int th), (5, .long wo)] [] M9 Q) : Wp none d 219 89 [(0, .ref 126), (1, .int kind), (2, .int (nI h)), (3, .int oth), (4, .int th), (5, .long wo)] [] M5 Q := by
  rw [m219_89 F5 (by decide)]
  have F6 : MF (sL M5 144 5 oth.toInt64) := F5
  simp only [w_hs, w_1, w_2, w_3, w_4, w_5, w_6, w_7, w_8, w_9]
  rw [m219_97 F6, k219_105]
  by_cases co : oth = -1
  · rw [if_neg (fun z => z co), k219_108]
    refine mTold_t F5 w5 w50 ?_ e6 e7 e8 H
    rw [← e5, if_pos co]
    rfl
  · obtain ⟨o, o1, o2⟩ : ∃ o, o < 7 ∧ oth = nI o := by
      rcases ho with ho | ho
      · exact absurd ho co
      · exact ho
    have eo : (21 : Int32) + oth = nI (21 + o) := by rw [o2, show (21 : Int32) = nI 21 from rfl, nI_add]
    rw [if_pos co, m219_114 F6 (by rw [eo]; exact v54 (by omega)), eo, n_cl (by omega)]
    refine mTold_t F5 w5 w50 ?_ e6 e7 e8 H
    rw [← e5, if_neg co, o2, n_cl (by omega)]
    rfl
theorem mTold {L : Law} {kind oth th : Int32} {h : Nat} {wo : Int64} (F : MF M) (h20 : hI M 126 20 = 0) (hL' : MLaw M L) (hh : h < 7) (ho : oth = -1 ∨ ∃ o, o < 7 ∧ oth = nI o) (H : ∀ M', EC M M' → Q (some (.long (mTF L kind (mEnv M h oth th) wo))) M') : Wp none d 219 0 [(0, .ref 126), (1, .int kind), (2, .int (nI h)), (3, .int oth), (4, .int th), (5, .long wo)] [] M Q := by
  have v3 : vin 3 5447 = true := by decide
  have c3 : (3 : Int32).toNatClampNeg = 3 := rfl
  rw [m219_0 F v3, c3, k219_7]
  cases L with
  | none =>
    have h3 : hI M 128 3 = -1 := hL'
    rw [h3, if_neg (fun z => z rfl), k219_10]
    exact H M (EC_refl M)
  | some y =>
    obtain ⟨nc, cf⟩ := y
    obtain ⟨n, len, h3, hn6, hlen, hnc, h1, hr⟩ : ∃ n len, hI M 128 3 = nI n ∧ n < 6 ∧ len ≤ 400 ∧ nc ≤ 12 ∧ hI M 128 (47 + 900 * n + 1) = nI nc ∧ ∀ i, i < nc → rowR M (47 + 900 * n) len i (cf i) := hL'
    have eA : (47 : Int32) + 900 * nI n = nI (47 + 900 * n) := by rw [show (47 : Int32) = nI 47 from rfl, show (900 : Int32) = nI 900 from rfl, n_mul, nI_add]
    rw [h3, if_pos (by rw [n_m1 (by omega)]; exact id), m219_13 F v3, c3, h3, eA]
    have hA : 47 + 900 * n + 900 ≤ 5447 := by omega
    generalize 47 + 900 * n = A at *
    have F1 : MF (sI M 126 34 (nI A)) := F
    have a1 : EC M (sI M 126 34 (nI A)) := EC_34
    have r1 : hI (sI M 126 34 (nI A)) 128 = hI M 128 := by funext j; rw [hI_sI_a (by decide)]
    have s34 : hI (sI M 126 34 (nI A)) 126 34 = nI A := hI_sI_s _ _ _ _
    have s20 : hI (sI M 126 34 (nI A)) 126 20 = 0 := (hI_sI_k (by decide)).trans h20
    have eM : mEnv (sI M 126 34 (nI A)) h oth th = mEnv M h oth th := by unfold mEnv; rw [r1]
    generalize sI M 126 34 (nI A) = M1 at *
    refine mTold_w F1 hh (fun M5 w => ?_)
    obtain ⟨a5, r5, F5, w5⟩ := w
    rw [eM] at w5
    refine mTold_m F5 ho w5 rfl ?_ rfl ?_ ?_ (fun M9 a9 r9 F9 w9 => ?_)
    · show _ = (if oth = -1 then -1 else hI M 128 (21 + oth.toNatClampNeg))
      rw [r5, r1]
    · show _ = hI M 128 4
      rw [r5, r1]
    · show _ = hI M 128 6
      rw [r5, r1]
    · have r9' : hI M9 128 = hI M 128 := by rw [r9, r5, r1]
      rw [k219_164]
      refine mToldL (M0 := M9) (A := A) (len := len) (nc := nc) (cf := cf) (e := mEnv M h oth th) F9 ⟨?_, ?_, hA, w9⟩ hlen hnc (by rw [r9']; exact h1) (fun i hi => rowR_128 (hr i hi) r9') (fun M' b => H M' (EC_trans a1 (EC_trans a5 (EC_trans a9 (EC_EB b))))) nc 0 M9 (by omega) (EB_refl M9)
      · rw [r9, r5]; exact s20
      · rw [r9, r5]; exact s34
