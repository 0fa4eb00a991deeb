variable {d : Nat} {M : hp} {Q : Option Value → hp → Prop}
/-- a clause: its kind, its sum, its test -/
abbrev Cls : Type := Int32 × ((Nat → Int32) → Option Int64) × ((Nat → Int32) → Option Int64)
def msk (n : Nat) (E : Int32 → Int32) : Nat → Int32 := fun k => if k < n then E (nI k) else 0
/-- the stretch of code that the cells k, k + 1 of the rows tell is one of D -/
def SegD (M : hp) (c r lc len n k : Nat) (D : (Nat → Int32) → Option Int64) : Prop := ∃ f g, hI M r k = nI f ∧ hI M r (k + 1) = nI g ∧ f ≤ g ∧ g ≤ len ∧ ∀ E s, crun (fun i => gI M c lc (nI i)) E (g - f) f (nI f) 0 1 s = D (msk n E)
/-- a law's text: n clauses -/
def TextD (M : hp) (t c r lc lr len n : Nat) (cf : Nat → Cls) : Prop := TextS M t c r lc lr ∧ hI M t 2 = nI len ∧ len ≤ 400 ∧ hI M t 3 = nI n ∧ n ≤ 12 ∧ lr = 8 * n ∧ ∀ i, i < n → hI M r (8 * i) = (cf i).1 ∧ SegD M c r lc len 9 (8 * i + 2) (cf i).2.1 ∧ SegD M c r lc len 9 (8 * i + 6) (cf i).2.2
def ansI (cf : Nat → Cls) (kind : Int32) (e : Nat → Int32) : Nat → Option Int64
  | 0 => none
  | i + 1 => if (cf i).1 = kind ∧ ¬ ((cf i).2.2 e).getD 0 = 0 ∧ ¬ (cf i).2.1 e = none then (cf i).2.1 e else ansI cf kind e i
def bnd (hi : Int32) (v : Int64) : Int32 := (if (if hi.toInt64 < v then hi.toInt64 else v) < 0 then 0 else (if hi.toInt64 < v then hi.toInt64 else v)).toInt32
def ansV (kind : Int32) : Option Int64 → Int32
  | none => if kind = 2 then 0 else 1
  | some v => bnd (if kind = 0 then 8 else 99) v
theorem answer_loop {nt h m t tc tr lc lr len n : Nat} {cf : Nat → Cls} {kind hat oth th : Int32} {e : Nat → Int32} {M0 : hp} (hnt : (hK M0 nt).1 = 2) (hnm : hR M0 nt 0 = m) (HM : MachS M0 m) (HT : TextD M0 t tc tr lc lr len n cf) (d1 : ¬ tc = m) (d2 : ¬ tc = m + 1) (d3 : ¬ tr = m) (d4 : ¬ t = m) (d5 : ¬ t = m + 1) (d6 : ¬ tr = m + 1) (he : msk 9 (gI M0 (m + 2) 18) = e) :
    ∀ (i : Nat) (M : hp), i ≤ n → agr [m, m + 1] M0 M → (∀ M', agr [m, m + 1] M0 M' → Q (some (.int (ansV kind (ansI cf kind e i)))) M') → Wp none d 35 37 [(0, .ref nt), (1, .ref h), (2, .ref t), (3, .int kind), (4, .int hat), (5, .int oth), (6, .int th), (7, .int (nI i - 1))] [] M Q := by
  intro i
  have h64 := HM.1
  induction i with
  | zero =>
    intro M hi hag hQ
    rw [k35_37, k35_39, if_pos (by decide), k35_126, k35_128]
    have q := hQ M hag
    show if ¬ kind = 2 then _ else _
    by_cases c : kind = 2
    · rw [if_neg (fun w => w c), k35_131, k35_136]
      have : ansV kind (ansI cf kind e 0) = 0 := by show (if kind = 2 then (0 : Int32) else 1) = 0; rw [if_pos c]
      rw [this] at q
      exact q
    · rw [if_pos c, k35_135, k35_136]
      have : ansV kind (ansI cf kind e 0) = 1 := by show (if kind = 2 then (0 : Int32) else 1) = 1; rw [if_neg c]
      rw [this] at q
      exact q
  | succ i ih =>
    intro M hi hag hQ
    have hin : i < n := by omega
    have hn12 : n ≤ 12 := HT.2.2.2.2.1
    have hlr : lr = 8 * n := HT.2.2.2.2.2.1
    have hlen := HT.2.2.1
    have K := hag.2.2.1
    have RR := hag.2.2.2.1
    have iI : ∀ a, ¬ a = m → ¬ a = m + 1 → hI M a = hI M0 a := fun a q1 q2 => (hag.2.2.2.2 a (by simp [q1, q2])).1
    have hnt1 : (hK M nt).1 = 2 := by rw [K]; exact hnt
    have hnm1 : hR M nt 0 = m := by rw [RR]; exact hnm
    have HM1 : MachS M m := by unfold MachS at *; rw [K, RR]; exact HM
    have HS1 : TextS M t tc tr lc lr := by have := HT.1; unfold TextS at *; rw [K, RR]; exact this
    have hrow := HT.2.2.2.2.2.2 i hin
    obtain ⟨hk, ⟨f1, g1, hf1, hg1, hfg1, hgl1, hD1⟩, ⟨f2, g2, hf2, hg2, hfg2, hgl2, hD2⟩⟩ := hrow
    have hl1 : hI M t 2 = nI len := by rw [iI t d4 d5]; exact HT.2.1
    rw [nI_pred, k35_37, k35_39, if_neg (nI_pos (show i < 2 ^ 31 by omega)), k35_42, k35_46 HS1.1]
    rw [show (0 : Int32) = nI 0 from rfl, Text_cell HS1 (show 8 * i + 0 < lr by omega)]
    simp only [oN]
    rw [k35_49, k35_50, Nat.add_zero, iI tr d3 d6, hk]
    have back : ∀ M, agr [m, m + 1] M0 M → ansI cf kind e (i + 1) = ansI cf kind e i → Wp none d 35 120 [(0, .ref nt), (1, .ref h), (2, .ref t), (3, .int kind), (4, .int hat), (5, .int oth), (6, .int th), (7, .int (nI i))] [] M Q := by
      intro M hag q
      rw [k35_120, n_addm1]
      exact ih M (by omega) hag (fun M' w => by have := hQ M' w; rw [q] at this; exact this)
    by_cases c1 : (cf i).1 = kind
    · rw [if_neg (fun q => q c1), k35_53 hnt1 (by rw [hnm1]; omega), hnm1, k35_62 HM1.2.1, show (6 : Int32) = nI 6 from rfl]
      have hC : ∀ M1, agr [m, m + 1] M0 M1 → ∀ j, gI M1 tc lc (nI j) = (fun i => gI M0 tc lc (nI i)) j := by
        intro M1 a1 j
        unfold gI
        rw [(a1.2.2.2.2 tc (by simp [d1, d2])).1]
      have hE : ∀ M1, agr [m, m + 1] M0 M1 → ∀ x, gI M1 (m + 2) 18 x = gI M0 (m + 2) 18 x := by
        intro M1 a1 x
        unfold gI
        rw [(a1.2.2.2.2 (m + 2) (by simp)).1]
      apply Machine_run HM1 HS1 (hC M hag) (hE M hag) d1 d2 d3 d4 (show 8 * i + 6 + 1 < lr by omega) (by rw [iI tr d3 d6]; exact hf2) (by rw [iI tr d3 d6]; exact hg2) hl1 hfg2 hgl2 hlen
      intro M' a1 _ _ _
      rw [hD2, he]
      have a2 := agr_trans hag a1
      simp only [oN]
      rw [k35_65, k35_67]
      simp only [lg_cmp_eq]
      by_cases c2 : ((cf i).2.2 e).getD 0 = 0
      · rw [if_pos c2]
        exact back M' a2 (by show (if _ then _ else _) = _; rw [if_neg (fun q => q.2.1 c2)])
      · have K2 := a2.2.2.1
        have R2 := a2.2.2.2.1
        have iI2 : ∀ a, ¬ a = m → ¬ a = m + 1 → hI M' a = hI M0 a := fun a q1 q2 => (a2.2.2.2.2 a (by simp [q1, q2])).1
        have hnt2 : (hK M' nt).1 = 2 := by rw [K2]; exact hnt
        have hnm2 : hR M' nt 0 = m := by rw [R2]; exact hnm
        have HM2 : MachS M' m := by unfold MachS at *; rw [K2, R2]; exact HM
        have HS2 : TextS M' t tc tr lc lr := by have := HT.1; unfold TextS at *; rw [K2, R2]; exact this
        have hl2 : hI M' t 2 = nI len := by rw [iI2 t d4 d5]; exact HT.2.1
        rw [if_neg c2, k35_70 hnt2 (by rw [hnm2]; omega), hnm2, k35_78 HM2.2.1, show (2 : Int32) = nI 2 from rfl]
        apply Machine_run HM2 HS2 (hC M' a2) (hE M' a2) d1 d2 d3 d4 (show 8 * i + 2 + 1 < lr by omega) (by rw [iI2 tr d3 d6]; exact hf1) (by rw [iI2 tr d3 d6]; exact hg1) hl2 hfg1 hgl1 hlen
        intro M3 b1 _ _ hb
        rw [hD1, he] at hb
        rw [hD1, he]
        have a3 := agr_trans a2 b1
        have K3 := a3.2.2.1
        have R3 := a3.2.2.2.1
        have hnt3 : (hK M3 nt).1 = 2 := by rw [K3]; exact hnt
        have hnm3 : hR M3 nt 0 = m := by rw [R3]; exact hnm
        have HM3 : MachS M3 m := by unfold MachS at *; rw [K3, R3]; exact HM
        simp only [oN]
        rw [k35_81 hnt3 (by rw [hnm3]; omega) (by rw [hnm3]; exact HM3.2.1), k35_90, hnm3, hb]
        by_cases c3 : (cf i).2.1 e = none
        · rw [if_pos c3, if_pos (by decide)]
          exact back M3 a3 (by show (if _ then _ else _) = _; rw [if_neg (fun q => q.2.2 c3)])
        · rw [if_neg c3, if_neg (by decide), k35_93, k35_94]
          have q := hQ M3 a3
          have ea : ansI cf kind e (i + 1) = (cf i).2.1 e := by show (if _ then _ else _) = _; rw [if_pos ⟨c1, c2, c3⟩]
          rw [ea] at q
          cases ev : (cf i).2.1 e with
          | none => exact absurd ev c3
          | some v =>
            rw [ev] at q
            have q2 : Q (some (.int (bnd (if kind = 0 then 8 else 99) v))) M3 := q
            show if ¬ kind = 0 then _ else _
            by_cases c4 : kind = 0
            · rw [if_neg (fun w => w c4), k35_97, k35_104]
              rw [if_pos c4] at q2
              exact q2
            · rw [if_pos c4, k35_102, k35_104]
              rw [if_neg c4] at q2
              exact q2
    · rw [if_pos c1]
      exact back M hag (by show (if _ then _ else _) = _; rw [if_neg (fun q => c1 q.1)])
theorem answer_n {nt h : Nat} {kind hat oth th : Int32} : Wp none d 35 0 [(0, .ref nt), (1, .ref h), (2, .null), (3, .int kind), (4, .int hat), (5, .int oth), (6, .int th)] [] M Q = Q (some (.int (ansV kind none))) M := by
  rw [k35_0n, k35_1n, k35_4n, k35_6n]
  show _ = Q (some (.int (if kind = 2 then (0 : Int32) else 1))) M
  by_cases c : kind = 2
  · rw [if_neg (fun w => w c), if_pos c, k35_9n, k35_14n]
  · rw [if_pos c, if_neg c, k35_13n, k35_14n]
/-- the night at p: its machine, then its rows -/
def NightS (M : hp) (p : Nat) : Prop := 64 ≤ p ∧ (hK M p).1 = 2 ∧ hR M p 0 = p + 1 ∧ hR M p 1 = p + 4 ∧ hR M p 2 = p + 5 ∧ MachS M (p + 1) ∧ hK M (p + 4) = (20, 10) ∧ hK M (p + 5) = (20, 7)
theorem msk_lw {a : Nat} {f : Nat → Int32} (hf : ∀ k, f (k + 9) = 0) : msk 9 (gI (sIs M a 0 9 f) a 18) = f := by
  funext k
  unfold msk
  by_cases c : k < 9
  · rw [if_pos c, gI_n (by omega) (by omega), hI_sIs_0 c]
  · rw [if_neg c]
    have := hf (k - 9)
    rw [show k - 9 + 9 = k by omega] at this
    rw [this]
theorem answer_ok {p h j t tc tr lc lr len n : Nat} {cf : Nat → Cls} {kind oth ko th : Int32} (HN : NightS M p) (H : HallS M h) (HT : TextD M t tc tr lc lr len n cf) (hj : j < 7) (hs : sm (hI M (h + 4) j)) (ho : (oth = -1 ∧ ko = -1) ∨ ∃ o, o < 7 ∧ oth = nI o ∧ ko = hI M (h + 1) o) (ha : p + 5 < h ∨ h + 5 < p) (d1 : p + 3 < t ∨ t < p) (d2 : p + 3 < tc ∨ tc < p) (d3 : p + 3 < tr ∨ tr < p)
    (hQ : ∀ M', agr [p + 1, p + 2, p + 3] M M' → Q (some (.int (ansV kind (ansI cf kind (lwF j (hI M (h + 1)) (hI M (h + 2)) (hI M (h + 4)) oth ko th (hI M h 5) (hI M h 7)) n)))) M') : Wp none d 35 0 [(0, .ref p), (1, .ref h), (2, (.ref t)), (3, .int kind), (4, .int (nI j)), (5, .int oth), (6, .int th)] [] M Q := by
  have HM := HN.2.2.2.2.2.1
  have p64 := HN.1
  rw [k35_0r, k35_1r, k35_15 HN.2.1 (by rw [HN.2.2.1]; omega), HN.2.2.1, k35_26 HM.2.1, setLawWords_ok HM H hj hs ho (by omega)]
  simp only [oZ]
  have K : hK (sIs M (p + 1 + 2) 0 9 (lwF j (hI M (h + 1)) (hI M (h + 2)) (hI M (h + 4)) oth ko th (hI M h 5) (hI M h 7))) = hK M := rfl
  have he := msk_lw (M := M) (a := p + 1 + 2) (f := lwF j (hI M (h + 1)) (hI M (h + 2)) (hI M (h + 4)) oth ko th (hI M h 5) (hI M h 7)) (fun _ => rfl)
  have hag : agr [p + 1, p + 2, p + 3] M (sIs M (p + 1 + 2) 0 9 (lwF j (hI M (h + 1)) (hI M (h + 2)) (hI M (h + 4)) oth ko th (hI M h 5) (hI M h 7))) := agr_sIs (by simp)
  generalize hW : sIs M (p + 1 + 2) 0 9 (lwF j (hI M (h + 1)) (hI M (h + 2)) (hI M (h + 4)) oth ko th (hI M h 5) (hI M h 7)) = M1 at *
  have iI : ∀ a, ¬ a = p + 1 → ¬ a = p + 2 → ¬ a = p + 3 → hI M1 a = hI M a := fun a q1 q2 q3 => (hag.2.2.2.2 a (by simp [q1, q2, q3])).1
  have K := hag.2.2.1
  have RR := hag.2.2.2.1
  have HT1 : TextD M1 t tc tr lc lr len n cf := by
    have q := HT
    unfold TextD TextS SegD gI at *
    rw [K, RR, iI t (by omega) (by omega) (by omega), iI tr (by omega) (by omega) (by omega), iI tc (by omega) (by omega) (by omega)]
    exact q
  have HM1 : MachS M1 (p + 1) := by unfold MachS at *; rw [K, RR]; exact HM
  rw [k35_29 (by rw [K]; exact HT.1.1), iI t (by omega) (by omega) (by omega), HT.2.2.2.1]
  refine answer_loop (M0 := M1) (m := p + 1) (by rw [K]; exact HN.2.1) (by rw [RR]; exact HN.2.2.1) HM1 HT1 (by omega) (by omega) (by omega) (by omega) (by omega) (by omega) he n M1 (Nat.le_refl n) (agr_refl _ _) ?_
  intro M' a1
  refine hQ M' (agr_trans hag (agr_mono a1 ?_))
  intro a q
  simp at q ⊢
  omega
