variable {d : Nat} {M : hp} {Q : Option Value → hp → Prop}
/-! capitals(): what is drawn -/
abbrev DSt : Type := (Nat → Int32) × (Nat → Int32) × Int32 × Nat
def nxD (s : Nat) : Nat := (s * 1103 + 12345) % 1000003
theorem nxD_lt (s : Nat) : nxD s < 1000003 := Nat.mod_lt _ (by omega)
def drw1 (n h p t k : Nat) (P W : Nat → Int32) : (Nat → Int32) × (Nat → Int32) :=
  if k = 0 then (if P h = -1 ∧ hatF n P (nI p) = -1 then (updI P h (nI p), W) else (P, W))
  else if k = 1 then (updI P h (-1), W)
  else if k = 2 then (P, updI W h (W h ||| ((1 : Int32) <<< (nI t &&& 31)))) else (P, W)
def drw (n : Nat) (s : DSt) : (Nat → Int32) × (Nat → Int32) := drw1 n (nxD s.2.2.2 % n) (nxD (nxD s.2.2.2) % 10) (nxD (nxD (nxD s.2.2.2)) % 8) (nxD (nxD (nxD (nxD s.2.2.2))) % 4) s.1 s.2.1
def capP (L : Law) (D T : Nat → Int32) (n : Nat) (rn : Int32) (pw : (Nat → Int32) × (Nat → Int32)) (hr : Int32) (z : Nat) : Int32 × DSt :=
  (lrnF (hourG L D T pw.1 n rn (pw.2, hr)) n, (pw.1, (stepG L D T pw.1 n rn (pw.2, hr)).1, (stepG L D T pw.1 n rn (pw.2, hr)).2, z))
def capS (L : Law) (D T : Nat → Int32) (n : Nat) (rn : Int32) (s : DSt) : Int32 × DSt := capP L D T n rn (drw n s) s.2.2.1 (nxD (nxD (nxD (nxD s.2.2.2))))
def capF (L : Law) (D T : Nat → Int32) (n : Nat) (rn : Int32) : Nat → DSt → Int32 → Int32 × DSt
  | 0, s, v => (v, s)
  | k + 1, s, v => if 999 ≤ s.2.2.1 then (v, s) else capF L D T n rn k (capS L D T n rn s).2 (v + (capS L D T n rn s).1)
theorem capF_nn {L : Law} {D T : Nat → Int32} {n : Nat} {rn : Int32} (hn : n ≤ 7) : ∀ (k : Nat) (s : DSt) (v : Nat), ∃ w, w ≤ v + 56 * k ∧ (capF L D T n rn k s (nI v)).1 = nI w := by
  intro k
  induction k with
  | zero => intro s v; exact ⟨v, by omega, rfl⟩
  | succ k ih =>
    intro s v
    unfold capF
    by_cases c : 999 ≤ s.2.2.1
    · rw [if_pos c]; exact ⟨v, by omega, rfl⟩
    · rw [if_neg c]
      obtain ⟨a, a1, a2, _⟩ := lrn_sum (hourG L D T (drw n s).1 n rn ((drw n s).2, s.2.2.1)) (hourG_sm L D T (drw n s).1 n rn ((drw n s).2, s.2.2.1)) n hn
      have e : (capS L D T n rn s).1 = nI a := by unfold capS capP; exact a2
      rw [e, nI_add]
      obtain ⟨w, w1, w2⟩ := ih (capS L D T n rn s).2 (v + a)
      exact ⟨w, by omega, w2⟩
theorem drw1_peg {n h p t k : Nat} {P W : Nat → Int32} (HP : PegS P n) (hn : n ≤ 7) (hh : h < n) (hp : p < 10) : PegS (drw1 n h p t k P W).1 n := by
  unfold drw1
  by_cases c0 : k = 0
  · rw [if_pos c0]
    by_cases c : P h = -1 ∧ hatF n P (nI p) = -1
    · rw [if_pos c]; exact hat_free HP hn hh hp (Or.inl c.2)
    · rw [if_neg c]; exact HP
  rw [if_neg c0]
  by_cases c1 : k = 1
  · rw [if_pos c1]; exact pegS_off HP
  rw [if_neg c1]
  by_cases c2 : k = 2
  · rw [if_pos c2]; exact HP
  · rw [if_neg c2]; exact HP
theorem drw1_kno {n h p t k : Nat} {P W : Nat → Int32} (HK : KnoS W n) (hh : h < n) (ht : t < 8) : KnoS (drw1 n h p t k P W).2 n := by
  unfold drw1
  by_cases c0 : k = 0
  · rw [if_pos c0]
    by_cases c : P h = -1 ∧ hatF n P (nI p) = -1
    · rw [if_pos c]; exact HK
    · rw [if_neg c]; exact HK
  rw [if_neg c0]
  by_cases c1 : k = 1
  · rw [if_pos c1]; exact HK
  rw [if_neg c1]
  by_cases c2 : k = 2
  · rw [if_pos c2]; exact KnoS_upd HK (sm_or (HK h hh) (sm_bit t ht))
  · rw [if_neg c2]; exact HK
theorem drw1_z {n h p t k : Nat} {P W : Nat → Int32} (hn : n ≤ 7) (hh : h < n) (j : Nat) (hj : 7 ≤ j) : (drw1 n h p t k P W).1 j = P j ∧ (drw1 n h p t k P W).2 j = W j := by
  have q : ¬ j = h := by omega
  unfold drw1
  by_cases c0 : k = 0
  · rw [if_pos c0]
    by_cases c : P h = -1 ∧ hatF n P (nI p) = -1
    · rw [if_pos c]; exact ⟨updI_n q, rfl⟩
    · rw [if_neg c]; exact ⟨rfl, rfl⟩
  rw [if_neg c0]
  by_cases c1 : k = 1
  · rw [if_pos c1]; exact ⟨updI_n q, rfl⟩
  rw [if_neg c1]
  by_cases c2 : k = 2
  · rw [if_pos c2]; exact ⟨rfl, updI_n q⟩
  · rw [if_neg c2]; exact ⟨rfl, rfl⟩
theorem n_mod {a b : Nat} (ha : a < 2147483648) (hb : b < 2147483648) : nI a - nI a / nI b * nI b = nI (a % b) := by
  rw [n_div ha hb, n_mul, n_sub (Nat.div_mul_le_self a b)]
  congr 1
  have := Nat.div_add_mod a b
  rw [Nat.mul_comm] at this
  omega
theorem T_nextDraw {s : Nat} (hs : s < 1000003) : Wp none d 144 0 [(0, .int (nI s))] [] M Q = Q (some (.int (nI (nxD s)))) M := by
  rw [k144_0, show (1103 : Int32) = nI 1103 from rfl, n_mul, show (12345 : Int32) = nI 12345 from rfl, nI_add, show (1000003 : Int32) = nI 1000003 from rfl, n_mod (by omega) (by omega)]
  rfl
theorem sI_upd (M : hp) (a k : Nat) (v : Int32) : hI (sI M a k v) a = updI (hI M a) k v := by
  funext j
  unfold updI
  by_cases c : j = k
  · rw [if_pos c, c, hI_sI_s]
  · rw [if_neg c, hI_sI_k c]
theorem T_drawCapital {n s : Nat} {L : Law} (X : XS M) (HO : HallO M 83 n L) (n0 : 0 < n) (hs : s < 1000003) (hQ : ∀ M', agr [86, 87] M M' → hI M' 86 = (drw1 n (nxD s % n) (nxD (nxD s) % 10) (nxD (nxD (nxD s)) % 8) (nxD (nxD (nxD (nxD s))) % 4) (hI M 86) (hI M 87)).1 → hI M' 87 = (drw1 n (nxD s % n) (nxD (nxD s) % 10) (nxD (nxD (nxD s)) % 8) (nxD (nxD (nxD (nxD s))) % 4) (hI M 86) (hI M 87)).2 → Q (some (.int (nI (nxD (nxD (nxD (nxD s))))))) M') : Wp none d 143 0 [(0, .ref 64), (1, .int (nI s))] [] M Q := by
  have n7 := HO.2.1.2
  have H := HO.1
  have b1 := nxD_lt s
  have b2 := nxD_lt (nxD s)
  have b3 := nxD_lt (nxD (nxD s))
  have b4 := nxD_lt (nxD (nxD (nxD s)))
  have m1 : nxD s % n < n := Nat.mod_lt _ n0
  have m2 : nxD (nxD s) % 10 < 10 := Nat.mod_lt _ (by omega)
  have m3 : nxD (nxD (nxD s)) % 8 < 8 := Nat.mod_lt _ (by omega)
  have m4 : nxD (nxD (nxD (nxD s))) % 4 < 4 := Nat.mod_lt _ (by omega)
  rw [k143_0, k143_1, T_nextDraw hs]
  simp only [oN]
  rw [k143_4, k143_6, T_nextDraw b1]
  simp only [oN]
  rw [k143_9, k143_11, T_nextDraw b2]
  simp only [oN]
  rw [k143_14, k143_18, T_nextDraw b3]
  simp only [oN]
  rw [x143_21 X, show hI M 83 8 = nI n from HO.2.1.1, k143_34, if_pos (by rw [show (0 : Int32) = nI 0 from rfl, n_lt (by omega) (by omega)]; omega), x143_40 X (by rw [show (0 : Int32) = nI 0 from rfl, n_eq (by omega) (by omega)]; omega), n_mod (by omega) (by omega), show (10 : Int32) = nI 10 from rfl, show (8 : Int32) = nI 8 from rfl, show (4 : Int32) = nI 4 from rfl, n_mod (by omega) (by omega), n_mod (by omega) (by omega), n_mod (by omega) (by omega), k143_67]
  generalize hhat : nxD s % n = h at *
  generalize hpeg : nxD (nxD s) % 10 = p at *
  generalize htho : nxD (nxD (nxD s)) % 8 = t at *
  generalize hknd : nxD (nxD (nxD (nxD s))) % 4 = k at *
  have hk : k = 0 ∨ k = 1 ∨ k = 2 ∨ k = 3 := by omega
  rcases hk with rfl | rfl | rfl | rfl
  · rw [if_neg (by decide), x143_70 X, x143_79 X H.2.1, Hall_canDo H HO.2.1 m1]
    simp only [oN]
    rw [k143_82]
    simp only [if_pos]
    by_cases c : hI M (83 + 3) h = -1 ∧ hatF n (hI M (83 + 3)) (nI p) = -1
    · rw [if_neg (by rw [bz_eq0]; exact fun q => q c), x143_85 X, k143_96, show (86 : Nat) = 83 + 3 from rfl, put_P H (by omega)]
      simp only [oZ]
      rw [k143_99, k143_143]
      refine hQ _ (agr_sI (by decide)) ?_ ?_
      · rw [show (83 + 3 : Nat) = 86 from rfl, sI_upd]
        unfold drw1
        rw [if_pos rfl, if_pos c]
      · rw [show (83 + 3 : Nat) = 86 from rfl]
        unfold drw1
        rw [if_pos rfl, if_pos c]
        funext j
        exact hI_sI_a (by decide)
    · rw [if_pos (by rw [bz_eq0]; exact c), k143_102, k143_105, if_pos (by decide), k143_124, k143_127, if_pos (by decide), k143_143]
      refine hQ _ (agr_refl _ _) ?_ ?_ <;> (unfold drw1; rw [if_pos rfl, if_neg c])
  · rw [if_pos (by decide), k143_102, k143_105, if_neg (by decide), x143_108 X, k143_118, show (86 : Nat) = 83 + 3 from rfl, put_P H (by omega)]
    simp only [oZ]
    rw [k143_121, k143_143]
    refine hQ _ (agr_sI (by decide)) ?_ ?_
    · rw [show (83 + 3 : Nat) = 86 from rfl, sI_upd]; rfl
    · funext j; exact hI_sI_a (by decide)
  · rw [if_pos (by decide), k143_102, k143_105, if_pos (by decide), k143_124, k143_127, if_neg (by decide), x143_130 X, x143_140 X H.2.1, Hall_learn H (by omega)]
    simp only [oZ]
    rw [k143_143]
    refine hQ _ (agr_sI (by decide)) ?_ ?_
    · funext j; exact hI_sI_a (by decide)
    · rw [show (83 + 4 : Nat) = 87 from rfl, sI_upd]; rfl
  · rw [if_pos (by decide), k143_102, k143_105, if_pos (by decide), k143_124, k143_127, if_pos (by decide), k143_143]
    exact hQ _ (agr_refl _ _) rfl rfl
