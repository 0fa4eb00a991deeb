variable {d : Nat} {M : hp} {Q : Option Value → hp → Prop}
/-! a clause of a law in force, as the reference asks it -/
def rOp (M : hp) (A : Nat) : Nat → Int32 := fun i => hI M 128 (A + 98 + 2 * i)
def rArg (M : hp) (A : Nat) : Nat → Int32 := fun i => hI M 128 (A + 98 + 2 * i + 1)
/-- the law lies at A, the words are e -/
def EvH (M : hp) (A : Nat) (e : Nat → Int32) : Prop := hI M 126 20 = 0 ∧ hI M 126 34 = nI A ∧ A + 900 ≤ 5447 ∧ ∀ k, k < 9 → hL M 144 (k + 1) = (e k).toInt64
def EB (M0 M' : hp) : Prop := agr [126, 146] M0 M' ∧ (∀ k, ¬ k = 38 → hI M' 126 k = hI M0 126 k) ∧ (∀ k, ¬ k = 39 → ¬ k = 40 → hL M' 126 k = hL M0 126 k)
theorem EB_refl (M : hp) : EB M M := ⟨agr_refl _ _, fun _ _ => rfl, fun _ _ _ => rfl⟩
theorem EB_trans {M M1 M2 : hp} (h : EB M M1) (h2 : EB M1 M2) : EB M M2 := ⟨agr_trans h.1 h2.1, fun k q => (h2.2.1 k q).trans (h.2.1 k q), fun k q q2 => (h2.2.2 k q q2).trans (h.2.2 k q q2)⟩
theorem EB_EA {M M1 : hp} (h : EA M M1) : EB M M1 := ⟨h.1, h.2.1, fun k q _ => h.2.2 k q⟩
theorem EB_40 {M : hp} {v : Int64} : EB M (sL M 126 40 v) := ⟨agr_sL (by decide), fun _ _ => rfl, fun _ _ q => hL_sL_k q⟩
theorem EvH_EB {M M1 : hp} {A : Nat} {e : Nat → Int32} (h : EvH M A e) (b : EB M M1) : EvH M1 A e := ⟨(b.2.1 20 (by decide)).trans h.1, (b.2.1 34 (by decide)).trans h.2.1, h.2.2.1, fun k hk => by rw [agr_L b.1 (by decide)]; exact h.2.2.2 k hk⟩
theorem mReck {A f g : Nat} {e : Nat → Int32} {D : Den} (F : MF M) (E : EvH M A e) (hg : g ≤ 400) (seg : SegR false (rOp M A) (rArg M A) f g D) (H : match D e with
    | none => ∀ M', EA M M' → hI M' 126 38 = 1 → Q none M'
    | some v => ∀ M', EA M M' → hI M' 126 38 = 0 → hL M' 126 39 = v → Q none M') : Wp none d 217 0 [(0, .ref 126), (1, .int (nI f)), (2, .int (nI g))] [] M Q := by
  have hf := seg.1
  rw [m217_0 F, k217_5, show (0 : Int32) = nI 0 from rfl]
  refine reck_loop (M0 := M) (A := A) (Op := rOp M A) (Arg := rArg M A) (e := e) F E.1 E.2.1 E.2.2.1 (fun i _ => ⟨rfl, rfl⟩) E.2.2.2 hg g f 0 0 _ (by omega) (by omega) (by omega) (by omega) EA_38 (hI_sI_s _ _ _ _) ?_
  have q := seg.2 e (0, 0, hL (sI M 126 38 (nI 0)) 146) (Nat.zero_le _)
  cases eD : D e with
  | none =>
    rw [eD] at q H
    rw [show rst false (rOp M A) (rArg M A) e (g - f) f (0, 0, hL (sI M 126 38 (nI 0)) 146) = none from q]
    exact H
  | some v =>
    rw [eD] at q H
    obtain ⟨go, s, q1, q2, q3, q4⟩ := q
    rw [q1]
    exact ⟨Nat.le_refl 1, fun M' a h1 h2 => H M' a h1 (h2.trans q4)⟩
/-- clause i of the law at A -/
def rowR (M : hp) (A len i : Nat) (x : Cls) : Prop := hI M 128 (A + 2 + 8 * i) = x.1 ∧ ((x.1 = nI 2 ∧ x.2.1 = oneD) ∨ (¬ x.1 = nI 2 ∧ ∃ f g, hI M 128 (A + 2 + 8 * i + 3) = nI f ∧ hI M 128 (A + 2 + 8 * i + 4) = nI g ∧ g ≤ len ∧ SegR false (rOp M A) (rArg M A) f g x.2.1)) ∧ ∃ f g, hI M 128 (A + 2 + 8 * i + 5) = nI f ∧ hI M 128 (A + 2 + 8 * i + 6) = nI g ∧ f ≤ g ∧ g ≤ len ∧ ((f = g ∧ x.2.2 = oneD) ∨ SegR false (rOp M A) (rArg M A) f g x.2.2)
theorem rowR_of {M' : hp} {n nc len i : Nat} {x : Cls} (h : mClsR M len i x) (c : CpR M M' n nc len) (hi : i < nc) : rowR M' (47 + 900 * n) len i x := by
  obtain ⟨a, c1, c2, c3, c4, c5⟩ := c
  obtain ⟨h1, h2, h3⟩ := h
  have cell : ∀ w, w < 8 → hI M' 128 (47 + 900 * n + 2 + 8 * i + w) = hI M 136 (8 * i + w) := fun w hw => by
    rw [show 47 + 900 * n + 2 + 8 * i + w = 47 + 900 * n + 2 + (8 * i + w) by omega]
    exact c3 _ (by omega)
  have sg : ∀ {f g : Nat} {D : Den}, SegR false (hI M 137) (hI M 138) f g D → g ≤ len → SegR false (rOp M' (47 + 900 * n)) (rArg M' (47 + 900 * n)) f g D := fun s hg => SegR_cong s (fun j q1 q2 => ⟨((c4 j (by omega)).1).symm, ((c4 j (by omega)).2).symm⟩)
  refine ⟨(cell 0 (by omega)).trans h1, ?_, ?_⟩
  · rcases h2 with h2 | ⟨h2, f, g, q1, q2, q3, q4⟩
    · exact Or.inl h2
    · exact Or.inr ⟨h2, f, g, (cell 3 (by omega)).trans q1, (cell 4 (by omega)).trans q2, q3, sg q4 q3⟩
  · obtain ⟨f, g, q1, q2, q3, q4, q5⟩ := h3
    refine ⟨f, g, (cell 5 (by omega)).trans q1, (cell 6 (by omega)).trans q2, q3, q4, ?_⟩
    rcases q5 with q5 | q5
    · exact Or.inl q5
    · exact Or.inr (sg q5 q4)
theorem rowR_EB {M1 : hp} {A len i : Nat} {x : Cls} (h : rowR M A len i x) (b : EB M M1) : rowR M1 A len i x := by
  have e : hI M1 128 = hI M 128 := agr_I b.1 (by decide)
  unfold rowR rOp rArg at *
  rw [e]
  exact h
/-- the sum of a clause -/
theorem so_sum {M0 : hp} {A len i : Nat} {e : Nat → Int32} {x : Cls} (F : MF M) (E : EvH M A e) (hlen : len ≤ 400) (hi : i < 12) (r : rowR M A len i x) (b : EB M0 M) (H0 : x.2.1 e = none → ∀ M', EB M0 M' → Q (some (.int 0)) M') (H1 : ∀ w, x.2.1 e = some w → ∀ M', EB M0 M' → (¬ x.1 = nI 2 → hL M' 126 40 = w) → Q (some (.int 1)) M') : Wp none d 218 59 [(0, .ref 126), (1, .int (nI (A + 2 + 8 * i)))] [] M Q := by
  have hA := E.2.2.1
  obtain ⟨r1, r2, r3⟩ := r
  rw [m218_59 F (v54 (by omega)), n_cl (by omega), r1, k218_66]
  rcases r2 with ⟨c1, c2⟩ | ⟨c1, f, g, q1, q2, q3, q4⟩
  · rw [if_pos (show x.1 = 2 from c1), k218_110]
    exact H1 1 (by rw [c2]; rfl) M b (fun z => absurd c1 z)
  · have hlt := q4.1
    have e3 : nI (A + 2 + 8 * i) + 3 = nI (A + 2 + 8 * i + 3) := by rw [show (3 : Int32) = nI 3 from rfl, nI_add]
    have e4 : nI (A + 2 + 8 * i) + 4 = nI (A + 2 + 8 * i + 4) := by rw [show (4 : Int32) = nI 4 from rfl, nI_add]
    rw [if_neg (show ¬ x.1 = 2 from c1), m218_69 F (by rw [e3]; exact v54 (by omega)) (by rw [e4]; exact v54 (by omega)), e3, e4, n_cl (by omega), n_cl (by omega), q1, q2, m218_86 F]
    refine mReck F E (by omega) q4 ?_
    cases eD : x.2.1 e with
    | none =>
      intro M' a h1
      have F' := MF_agr F a.1
      have Fs : MF (sL M' 126 40 (hL M' 126 39)) := F'
      simp only [oZ]
      rw [m218_89 F', m218_97 Fs, show hI (sL M' 126 40 (hL M' 126 39)) 126 38 = 1 from h1, k218_101, if_pos (by decide), k218_108, k218_109 (Or.inl rfl)]
      exact H0 eD _ (EB_trans b (EB_trans (EB_EA a) EB_40))
    | some w =>
      intro M' a h1 h2
      have F' := MF_agr F a.1
      have Fs : MF (sL M' 126 40 (hL M' 126 39)) := F'
      simp only [oZ]
      rw [m218_89 F', m218_97 Fs, show hI (sL M' 126 40 (hL M' 126 39)) 126 38 = 0 from h1, k218_101, if_neg (fun z => z rfl), k218_104, k218_109 (Or.inr rfl)]
      exact H1 w eD _ (EB_trans b (EB_trans (EB_EA a) EB_40)) (fun _ => by rw [hL_sL_s]; exact h2)
theorem mIsSo {A len i : Nat} {e : Nat → Int32} {x : Cls} (F : MF M) (E : EvH M A e) (hlen : len ≤ 400) (hi : i < 12) (r : rowR M A len i x) (H0 : ((x.2.2 e).getD 0 = 0 ∨ x.2.1 e = none) → ∀ M', EB M M' → Q (some (.int 0)) M') (H1 : ∀ w, ¬ (x.2.2 e).getD 0 = 0 → x.2.1 e = some w → ∀ M', EB M M' → (¬ x.1 = nI 2 → hL M' 126 40 = w) → Q (some (.int 1)) M') : Wp none d 218 0 [(0, .ref 126), (1, .int (nI (A + 2 + 8 * i)))] [] M Q := by
  have hA := E.2.2.1
  obtain ⟨f, g, q1, q2, q3, q4, q5⟩ := r.2.2
  have e5 : nI (A + 2 + 8 * i) + 5 = nI (A + 2 + 8 * i + 5) := by rw [show (5 : Int32) = nI 5 from rfl, nI_add]
  have e6 : nI (A + 2 + 8 * i) + 6 = nI (A + 2 + 8 * i + 6) := by rw [show (6 : Int32) = nI 6 from rfl, nI_add]
  have v5 : vin (nI (A + 2 + 8 * i) + 5) 5447 = true := by rw [e5]; exact v54 (by omega)
  have v6 : vin (nI (A + 2 + 8 * i) + 6) 5447 = true := by rw [e6]; exact v54 (by omega)
  rw [m218_0 F v5 v6, e5, e6, n_cl (by omega), n_cl (by omega), q1, q2, k218_17, lei (by omega) (by omega)]
  rcases q5 with ⟨c1, c2⟩ | sg
  · rw [if_pos (by omega)]
    have n0 : ¬ (x.2.2 e).getD 0 = 0 := by
      rw [c2]
      show ¬ (1 : Int64) = 0
      decide
    exact so_sum F E hlen hi r (EB_refl M) (fun z => H0 (Or.inr z)) (fun w hw => H1 w n0 hw)
  · have hlt := sg.1
    rw [if_neg (by omega), m218_20 F v5 v6, e5, e6, n_cl (by omega), n_cl (by omega), q1, q2, m218_38 F]
    refine mReck F E (by omega) sg ?_
    cases eD : x.2.2 e with
    | none =>
      intro M' a h1
      have F' := MF_agr F a.1
      simp only [oZ]
      rw [m218_41 F', h1, k218_45, if_pos (by decide), k218_57]
      exact H0 (Or.inl (by rw [eD]; rfl)) M' (EB_EA a)
    | some v =>
      intro M' a h1 h2
      have F' := MF_agr F a.1
      simp only [oZ]
      rw [m218_41 F', h1, k218_45, if_neg (fun z => z rfl), m218_48 F', h2, k218_54]
      simp only [lg_cmp_eq]
      by_cases c : v = 0
      · rw [if_neg (fun z => z c), k218_57]
        exact H0 (Or.inl (by rw [eD]; exact c)) M' (EB_EA a)
      · rw [if_pos c]
        have n0 : ¬ (x.2.2 e).getD 0 = 0 := by rw [eD]; exact c
        exact so_sum F' (EvH_EB E (EB_EA a)) hlen hi (rowR_EB r (EB_EA a)) (EB_EA a) (fun z => H0 (Or.inr z)) (fun w hw => H1 w n0 hw)
