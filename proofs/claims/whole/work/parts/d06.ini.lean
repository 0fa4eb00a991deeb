/-! both sides at the start -/
def MZ : hp := denM os3
theorem MZ_N : hN MZ = 90 := by decide +kernel
theorem MZ_S : hS MZ ≤ 60000 := by decide +kernel
theorem MZ_XS : XS MZ := by
  unfold XS XF HallS PastS TapeS ReadS TextS NightS MachS PlanS
  repeat' apply And.intro
  all_goals decide +kernel
theorem MZ_MF : MF MZ := by
  unfold MF
  repeat' apply And.intro
  all_goals decide +kernel
theorem MZ_MWd : MWd MZ := by
  unfold MWd
  refine ⟨?_, ?_, ?_, ?_⟩ <;> decide +kernel
/-- what is never written -/
def opA (a : Nat) (o : mop) : Bool := decide (¬ o.1 = 1) || decide (¬ o.2.1 = a)
theorem denM_nev {a : Nat} : ∀ {os : List mop}, os.all (opA a) = true → ∀ k, hI (denM os) a k = 0 := by
  intro os
  induction os with
  | nil => intro _ k; rfl
  | cons o t ih =>
    intro h k
    rw [List.all_cons, Bool.and_eq_true] at h
    have e := ih h.2 k
    have h1 := h.1
    show hI (opM o (denM t)) a k = 0
    unfold opM
    split
    · show (if a = 64 + hN (denM t) then (0 : Int32) else hI (denM t) a k) = 0
      by_cases c : a = 64 + hN (denM t)
      · rw [if_pos c]
      · rw [if_neg c]; exact e
    · rename_i c1
      have c2 : ¬ a = o.2.1 := by
        intro z
        unfold opA at h1
        rw [Bool.or_eq_true, decide_eq_true_eq, decide_eq_true_eq] at h1
        rcases h1 with q | q
        · exact q c1
        · exact q z.symm
      show (if a = o.2.1 ∧ k = o.2.2.1 then _ else hI (denM t) a k) = 0
      rw [if_neg (fun z => c2 z.1)]
      exact e
    · exact e
    · exact e
theorem MZ_Z {h : Nat} (hh : h ∈ [65, 71, 77, 83, 90, 96]) : HallZ MZ h := by
  have key : ∀ h, h ∈ [65, 71, 77, 83, 90, 96] → ∀ r, r < 5 → 1 ≤ r → os3.all (opA (h + r)) = true := by
    have q : ([65, 71, 77, 83, 90, 96].all fun h => [1, 2, 3, 4].all fun r => os3.all (opA (h + r))) = true := by decide +kernel
    intro h hh r r1 r2
    exact List.all_eq_true.mp (List.all_eq_true.mp q h hh) r (by
      have : r = 1 ∨ r = 2 ∨ r = 3 ∨ r = 4 := by omega
      rcases this with rfl | rfl | rfl | rfl <;> decide)
  intro r r1 r2 k _
  exact denM_nev (key h hh r (by omega) r1) k
theorem MZ_Scr : Scr MZ := ⟨MZ_Z (by decide), MZ_Z (by decide), MZ_Z (by decide), MZ_Z (by decide), MZ_Z (by decide)⟩
theorem MZ_Img : Img MZ := ⟨Or.inl ⟨by decide +kernel, by decide +kernel⟩, Or.inl ⟨by decide +kernel, by decide +kernel⟩⟩
theorem MZ_Tpe : Tpe MZ := ⟨fun _ => 0, 0, by decide, by decide +kernel, by decide +kernel, fun i hi => absurd hi (Nat.not_lt_zero i), fun _ => (by decide : (0 : Nat) < 256)⟩
theorem MZ_Scl : Scl MZ := by
  unfold Scl
  decide +kernel
theorem MZ_Drw : Drw MZ := Or.inl ⟨by decide +kernel, by decide +kernel⟩
theorem MZ_Und : Und MZ 0 := ⟨0, 0, by decide, by decide, by decide +kernel, by decide +kernel, by decide +kernel, fun k hk => absurd hk (Nat.not_lt_zero k)⟩
theorem MZ_PiS : PiS MZ 65 (hI MZ 128) 0 := by
  refine ⟨by decide +kernel, by decide +kernel, by decide, ?_, ⟨by decide +kernel, by decide +kernel, by decide +kernel⟩, ⟨fun j hj => absurd hj (Nat.not_lt_zero j), fun i _ hi => absurd hi (Nat.not_lt_zero i)⟩, fun j hj => absurd hj (Nat.not_lt_zero j), ⟨0, by decide, by decide +kernel⟩, ⟨1, by decide, by decide +kernel⟩⟩
  decide +kernel
theorem MZ_LwS : LwS MZ 65 (hI MZ 128) 0 (fun _ => (0, fun _ => (0, fun _ => none, fun _ => none))) := by
  refine ⟨by decide +kernel, by decide +kernel, by decide, fun i hi => absurd hi (Nat.not_lt_zero i), ?_, by decide +kernel, Or.inl (by decide +kernel)⟩
  have q : ∀ i, i < 6 → hR MZ (65 + 5) i = 0 := by decide +kernel
  exact fun i hi => Or.inl (q i hi)
theorem MZ_HdS : HdS MZ 65 (hI MZ 128) := ⟨0, fun _ => 0, fun _ => false, ⟨by decide +kernel, by decide, fun k hk => absurd hk (Nat.not_lt_zero k)⟩, by decide +kernel, by decide +kernel, by decide +kernel⟩
theorem MZ_Sim : Sim MZ := ⟨⟨by rw [MZ_N]; exact Nat.le_refl _, MZ_XS, MZ_MF, MZ_MWd, by decide +kernel, by decide +kernel⟩, MZ_Scr, MZ_Img, MZ_Tpe, MZ_Scl, MZ_Drw, 0, 0, _, ⟨MZ_Z (by decide), MZ_PiS, MZ_LwS, MZ_HdS⟩, MZ_Und⟩
/-- from its entry the law comes to its end with true -/
theorem law_all {N : Nat} {F : Nat → Int32} {Q : Option Value → hp → Prop} (hNN : N ≤ 3072) (fin : ∀ M2, hN M2 ≤ 90 + 3072 → hS M2 ≤ 60000 + 307200 → Q (some (.int 1)) M2) : Wp (some (N, F)) 8 272 0 [(0, .ref 1)] [] M00 Q := by
  rw [k272_0, k272_4]
  show Wp none 8 90 0 [(0, .ref 64)] [] (denM os0) (fun r M1 => Wp (some (N, F)) 8 272 7 [(0, .ref 1)] (r.toList ++ [.ref 64]) M1 Q)
  refine evB_Wp ini_T ?_
  show Wp (some (N, F)) 8 272 7 [(0, .ref 1)] ([] ++ [.ref 64]) (denM os1) Q
  rw [List.nil_append, k272_7, show 64 + hN (denM os1) = 126 by decide +kernel, k272_12]
  show Wp none 8 151 0 [(0, .ref 126)] [] (denM os2) (fun r M1 => Wp (some (N, F)) 8 272 15 [(0, .ref 1), (1, .ref 64)] (r.toList ++ [.ref 126]) M1 Q)
  refine evB_Wp ini_M ?_
  show Wp (some (N, F)) 8 272 15 [(0, .ref 1), (1, .ref 64)] ([] ++ [.ref 126]) MZ Q
  rw [List.nil_append, k272_15]
  exact law_loop hNN fin N 0 MZ (by omega) (by omega) MZ_Sim (by rw [MZ_N]; exact Nat.le_refl _) (by have := MZ_S; omega)
