/-! the words of the tables that the code needs -/
def lwG : List Jvm.Cond := lw_tbl.filter goodWord
theorem lwG_of {w : Jvm.Cond} {i : Nat} (h : lw_tbl[i]? = some w) (hg : goodWord w = true) : w ∈ lwG := List.mem_filter.mpr ⟨List.mem_of_getElem? h, hg⟩
theorem lwG_good : lwG.all goodWord = true := List.all_eq_true.mpr fun _ h => (List.mem_filter.mp h).2
theorem lwG_in : ∀ w ∈ lwG, w ∈ lw_tbl := fun _ h => (List.mem_filter.mp h).1
def kOn (o : Nat) : String := kOs.getD o ""
def kcls (ci : Nat) : vw_C := vwCl.getD ci (RX0, TX0, 14)
def kwF (e : Nat × Nat × Nat × Nat) : Jvm.Cond := .fieldLink (kOn e.1) e.2.1 (kcls (e.2.2.2 / 100)).1 ((kcls (e.2.2.2 / 100)).2.1 (e.2.2.2 % 100)).2.1 ((kcls (e.2.2.2 / 100)).2.1 (e.2.2.2 % 100)).2.2.1
theorem kKF_ok : kKF.all (fun e => decide (lw_tbl[e.2.2.1]? = some (kwF e))) = true := by decide +kernel
def kwM (e : Nat × Nat × Nat × Nat) : Jvm.Cond :=
  if e.2.2.2 = 6000 then .methodLink (kOn e.1) e.2.1 objectInit
  else if e.2.2.2 = 7000 then .methodLink (kOn e.1) e.2.1 ⟨"java/lang/String", "length", "()I"⟩
  else if e.2.2.2 = 8000 then .methodLink (kOn e.1) e.2.1 ⟨"java/lang/String", "charAt", "(I)C"⟩
  else if e.2.2.2 = 9001 then .methodLink (kOn e.1) e.2.1 ⟨"java/lang/Math", "max", "(II)I"⟩
  else if e.2.2.2 = 9002 then .methodLink (kOn e.1) e.2.1 ⟨"java/lang/Math", "min", "(II)I"⟩
  else if e.2.2.2 = 9003 then .methodLink (kOn e.1) e.2.1 ⟨"java/lang/Math", "max", "(JJ)J"⟩
  else if e.2.2.2 = 9004 then .methodLink (kOn e.1) e.2.1 ⟨"java/lang/Math", "min", "(JJ)J"⟩
  else if e.2.2.2 / 1000 = 1 ∨ e.2.2.2 / 1000 = 3 ∨ e.2.2.2 / 1000 = 5 then .methodLinkNest (kOn e.1) e.2.1 (kM (e.2.2.2 % 1000)).1 "TruthHats"
  else .methodLink (kOn e.1) e.2.1 (kM (e.2.2.2 % 1000)).1
theorem kKM_ok : kKM.all (fun e => decide (lw_tbl[e.2.2.1]? = some (kwM e))) = true := by decide +kernel
def kwC (e : Nat × Nat × Nat × Nat) : Jvm.Cond := .classLink (kOn e.1) e.2.1 (if e.2.2.2 = 23 then RX7 else if e.2.2.2 = 24 then RX0 else (kcls e.2.2.2).1)
theorem kKC_ok : kKC.all (fun e => decide (lw_tbl[e.2.2.1]? = some (kwC e)) && (decide (e.2.2.2 = 23) || decide (e.2.2.2 = 24) || decide (e.2.2.2 < 10))) = true := by decide +kernel
def kwI (e : Nat × Nat × Nat × Int) : Jvm.Cond := .constant (kOn e.1) e.2.1 (Int32.ofInt e.2.2.2)
theorem kKI_ok : kKI.all (fun e => decide (lw_tbl[e.2.2.1]? = some (kwI e))) = true := by decide +kernel
def kwJ (e : Nat × Nat × Nat × Nat) : Jvm.Cond := .constantLong (kOn e.1) e.2.1 (kJs.getD e.2.2.2 0)
theorem kKJ_ok : kKJ.all (fun e => decide (lw_tbl[e.2.2.1]? = some (kwJ e))) = true := by decide +kernel
def kwS (e : Nat × Nat × Nat × Nat) : Jvm.Cond := .stringRef (kOn e.1) e.2.1 (kStr.getD e.2.2.2 "")
theorem kKS_ok : kKS.all (fun e => decide (lw_tbl[e.2.2.1]? = some (kwS e)) && decide (2 ≤ e.2.2.2 ∧ e.2.2.2 < 13)) = true := by decide +kernel
/-- of a method: its code, its class initialised; not static: instanceMethod (and selects, where it is no constructor); static -/
def kmx (mi : Nat) (x : Nat × Nat × Nat × Nat × Nat) : Bool :=
  (mi == 272 || decide (lw_tbl[x.1]? = some (.code (kM mi).1 (kM mi).2.1 (kM mi).2.2.1 (kM mi).2.2.2.1))) &&
  decide (lw_tbl[x.2.1]? = some (.initialized (kM mi).1.cls)) &&
  (x.2.2.1 == 99999 || decide (lw_tbl[x.2.2.1]? = some (.instanceMethod (kM mi).1))) &&
  (x.2.2.2.1 == 99999 || decide (lw_tbl[x.2.2.2.1]? = some (.selects (kM mi).1.cls (kM mi).1 (kM mi).1))) &&
  (x.2.2.2.2 == 99999 || decide (lw_tbl[x.2.2.2.2]? = some (.static (kM mi).1))) &&
  decide ((kM mi).1.cls ≠ "java/lang/invoke/MethodHandle" ∧ (kM mi).1.cls ≠ "java/lang/invoke/VarHandle") &&
  decide ((kM mi).1.cls = kOn (kM mi).2.2.2.2.1) &&
  decide ((parseMethodDescriptor (kM mi).1.desc).map (fun d => d.parameters.length + (if x.2.2.2.2 = 99999 ∧ mi ≠ 272 then 1 else 0)) = some (kM mi).2.2.2.2.2.2.1) &&
  decide ((kM mi).2.2.1 ≤ 20) && decide ((kM mi).2.2.2.2.2.1 < 20) && plainName (kM mi).1.cls && decide (mi = 272 ∨ (kM mi).2.2.2.2.1 < 13 ∧ (kM mi).2.2.2.2.1 ≠ 10)
