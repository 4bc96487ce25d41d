/-! the rules hold of the machine -/
def ipLen (i : Instr) : Nat := match i with
  | .tableswitch _ _ _ _ => 0
  | .bipush _ => 2
  | .sipush _ => 3
  | .ldc _ => 2
  | .ldc_w _ => 3
  | .ldc2_w _ => 3
  | .iload _ => 2
  | .aload _ => 2
  | .lload _ => 2
  | .istore _ => 2
  | .astore _ => 2
  | .lstore _ => 2
  | .iinc _ _ => 3
  | .if_icmp _ _ => 3
  | .ifCond _ _ => 3
  | .goto _ => 3
  | .ifnonnull _ => 3
  | .getfield _ => 3
  | .putfield _ => 3
  | .invokevirtual _ => 3
  | .invokespecial _ => 3
  | .invokestatic _ => 3
  | .new _ => 3
  | .anewarray _ => 3
  | .newarray _ => 2
  | _ => 1
def ipLenOK (q : ipEnt) : Bool := ipLen q.2.1 == 0 || q.2.2.1 == ipLen q.2.1
set_option maxRecDepth 100000 in
theorem ipLen_all : ipCodes.all (fun l => l.all ipLenOK) = true := by decide +kernel
theorem ipAt_all {mid pc : Nat} {i : Instr} {len a b : Nat} (h : ipAt mid pc = some (i, len, a, b)) : decode (ipB mid) pc = .ok (i, len) ∧ ipLk mid pc i a b = true ∧ (ipLen i ≠ 0 → len = ipLen i) := by
  obtain ⟨h1, h2⟩ := ipAt_ok h
  refine ⟨h1, h2, fun h0 => ?_⟩
  have hm := ipFind_mem _ _ _ h
  have hc : ipCode mid ∈ ipCodes ∨ ipCode mid = [] := by
    unfold ipCode
    rw [List.getD_eq_getElem?_getD]
    cases hq : ipCodes[mid]? with
    | none => exact Or.inr rfl
    | some x => exact Or.inl (List.mem_of_getElem? hq)
  rcases hc with hc | hc
  · have h3 := List.all_eq_true.mp (List.all_eq_true.mp ipLen_all _ hc) _ hm
    simp only [ipLenOK, Bool.or_eq_true, beq_iff_eq] at h3
    rcases h3 with h3 | h3
    · exact absurd h3 h0
    · exact h3
  · rw [hc] at hm
    cases hm
def ipL (ls : Array Slot) (nL : Nat) (lv : ipV) : Prop := ls.size = nL ∧ lv_wf ls ∧ lv.length = nL ∧ ∀ (n : Nat) (v : Value), lv[n]? = some (some v) → ls[n]? = some (.val v)
def ipAs : Nat → ipV → List (Nat × Value)
  | _, [] => []
  | k, none :: l => ipAs (k + 1) l
  | k, some v :: l => (k, v) :: ipAs (k + 1) l
theorem ipAs_in : ∀ (lv : ipV) (k n : Nat) (v : Value), (n, v) ∈ ipAs k lv ↔ ∃ j, n = k + j ∧ lv[j]? = some (some v)
  | [], k, n, v => by simp [ipAs]
  | none :: l, k, n, v => by
    rw [ipAs, ipAs_in l (k + 1) n v]
    constructor
    · rintro ⟨j, rfl, h⟩
      exact ⟨j + 1, by omega, by simpa using h⟩
    · rintro ⟨j, rfl, h⟩
      cases j with
      | zero => simp at h
      | succ j => exact ⟨j, by omega, by simpa using h⟩
  | some w :: l, k, n, v => by
    rw [ipAs, List.mem_cons, ipAs_in l (k + 1) n v]
    constructor
    · rintro (h | ⟨j, rfl, h⟩)
      · cases h
        exact ⟨0, rfl, rfl⟩
      · exact ⟨j + 1, by omega, by simpa using h⟩
    · rintro ⟨j, rfl, h⟩
      cases j with
      | zero =>
        left
        simp at h
        rw [h]
        rfl
      | succ j => exact Or.inr ⟨j, by omega, by simpa using h⟩
theorem ipL.has {ls : Array Slot} {nL : Nat} {lv : ipV} (h : ipL ls nL lv) : lv_has ls nL (ipAs 0 lv) := by
  refine ⟨h.1, h.2.1, fun q hq => ?_⟩
  obtain ⟨n, v⟩ := q
  obtain ⟨j, e, hj⟩ := (ipAs_in lv 0 n v).mp hq
  rw [Nat.zero_add] at e
  subst e
  exact h.2.2.2 n v hj
theorem ipKill_len (lv : ipV) (i : Nat) : (ipKill lv i).length = lv.length := by
  unfold ipKill
  split
  · rfl
  · split
    · split
      · simp
      · rfl
    · rfl
theorem ipKill_at {lv : ipV} {i n : Nat} {v : Value} (h : (ipKill lv i)[n]? = some (some v)) : lv[n]? = some (some v) ∧ ¬ (n + 1 = i ∧ v.category = 2) := by
  unfold ipKill at h
  split at h
  · exact ⟨h, by omega⟩
  · rename_i j
    split at h
    · rename_i w hw
      split at h
      · rename_i hc
        by_cases e : j = n
        · subst e
          rw [List.getElem?_set] at h
          simp at h
        · rw [List.getElem?_set_ne e] at h
          exact ⟨h, fun q => e (by omega)⟩
      · rename_i hc
        refine ⟨h, fun q => ?_⟩
        have e : j = n := by omega
        subst e
        rw [hw] at h
        cases h
        exact hc q.2
    · rename_i hw
      refine ⟨h, fun q => ?_⟩
      have e : j = n := by omega
      subst e
      exact hw v h
theorem ipL.set1 {ls ls2 : Array Slot} {nL i : Nat} {lv : ipV} {v : Value} (h : ipL ls nL lv) (hc : v.category = 1) (h2 : lv_has ls2 nL ((i, v) :: (ipAs 0 lv).filter (fun q => !(q.1 == i) && !(q.1 + 1 == i && q.2.category == 2)))) : ipL ls2 nL (ipSet lv i v) := by
  have hs : ipSet lv i v = (ipKill lv i).set i (some v) := by unfold ipSet; rw [if_neg (by omega)]
  refine ⟨h2.1, h2.2.1, by rw [hs, List.length_set, ipKill_len]; exact h.2.2.1, fun n w hw => ?_⟩
  rw [hs] at hw
  by_cases e : i = n
  · subst e
    rw [List.getElem?_set] at hw
    simp at hw
    rw [← hw.2]
    exact h2.2.2 (i, v) List.mem_cons_self
  · rw [List.getElem?_set_ne e] at hw
    obtain ⟨h3, h4⟩ := ipKill_at hw
    refine h2.2.2 (n, w) (List.mem_cons_of_mem _ (List.mem_filter.mpr ⟨(ipAs_in lv 0 n w).mpr ⟨n, by omega, h3⟩, ?_⟩))
    simp only [Bool.and_eq_true, Bool.not_eq_true', beq_eq_false_iff_ne, ne_eq, Bool.and_eq_false_iff]
    refine ⟨fun q => e q.symm, ?_⟩
    by_cases q : n + 1 = i
    · exact Or.inr fun r => h4 ⟨q, r⟩
    · exact Or.inl q
theorem ipL.set2 {ls ls2 : Array Slot} {nL i : Nat} {lv : ipV} {v : Value} (h : ipL ls nL lv) (hc : v.category = 2) (h2 : lv_has ls2 nL ((i, v) :: (ipAs 0 lv).filter (fun q => !(q.1 == i) && (!(q.1 == i + 1) && !(q.1 + 1 == i && q.2.category == 2))))) : ipL ls2 nL (ipSet lv i v) := by
  have hs : ipSet lv i v = ((ipKill lv i).set i (some v)).set (i + 1) none := by unfold ipSet; rw [if_pos hc]
  refine ⟨h2.1, h2.2.1, by rw [hs, List.length_set, List.length_set, ipKill_len]; exact h.2.2.1, fun n w hw => ?_⟩
  rw [hs] at hw
  by_cases e1 : i + 1 = n
  · subst e1
    rw [List.getElem?_set] at hw
    simp at hw
  · rw [List.getElem?_set_ne e1] at hw
    by_cases e : i = n
    · subst e
      rw [List.getElem?_set] at hw
      simp at hw
      rw [← hw.2]
      exact h2.2.2 (i, v) List.mem_cons_self
    · rw [List.getElem?_set_ne e] at hw
      obtain ⟨h3, h4⟩ := ipKill_at hw
      refine h2.2.2 (n, w) (List.mem_cons_of_mem _ (List.mem_filter.mpr ⟨(ipAs_in lv 0 n w).mpr ⟨n, by omega, h3⟩, ?_⟩))
      simp only [Bool.and_eq_true, Bool.not_eq_true', beq_eq_false_iff_ne, ne_eq, Bool.and_eq_false_iff]
      refine ⟨fun q => e q.symm, fun q => e1 q.symm, ?_⟩
      by_cases q : n + 1 = i
      · exact Or.inr fun r => h4 ⟨q, r⟩
      · exact Or.inl q
-- the words
theorem ipz {α : Type} (P : α → Cond) : ∀ (l : List α) (is : List Nat), (l.zip is).all (fun q => decide (tables_1[q.2]? = some (P q.1))) = true → l.length ≤ is.length → ∀ q ∈ l, P q ∈ lw_tbl
  | [], _, _, _, q, hq => by cases hq
  | x :: l, [], _, h2, q, hq => by simp at h2
  | x :: l, i :: is, h1, h2, q, hq => by
    rw [List.zip_cons_cons, List.all_cons, Bool.and_eq_true] at h1
    rcases List.mem_cons.mp hq with rfl | hq
    · exact List.mem_append_right _ (List.mem_of_getElem? (of_decide_eq_true h1.1))
    · exact ipz P l is h1.2 (by simpa using h2) q hq
def ipTW : List Cond := lw_tbl.filter goodWord
theorem ipTW_in {w : Cond} (h : w ∈ lw_tbl) (hg : goodWord w = true) : w ∈ ipTW := List.mem_filter.mpr ⟨h, hg⟩
set_option maxRecDepth 100000 in
theorem ipFL_w : ∀ q ∈ ipFL, Cond.fieldLink (ipCN q.1) q.2.1 (ipT q.2.2.1 q.2.2.2).1 (ipT q.2.2.1 q.2.2.2).2.1 (ipT q.2.2.1 q.2.2.2).2.2.1 ∈ lw_tbl := ipz (fun q => Cond.fieldLink (ipCN q.1) q.2.1 (ipT q.2.2.1 q.2.2.2).1 (ipT q.2.2.1 q.2.2.2).2.1 (ipT q.2.2.1 q.2.2.2).2.2.1) ipFL ipFLi (by decide +kernel) (by decide +kernel)
set_option maxRecDepth 100000 in
theorem ipFL_r : ipFL.all (fun q => decide (q.2.2.1 < 10) && decide (q.2.2.2 < ipN q.2.2.1)) = true := by decide +kernel
set_option maxRecDepth 100000 in
theorem ipVL_w : ∀ q ∈ ipVL, Cond.methodLink (ipCN q.1) q.2.1 (ipY q.2.2.1) ∈ lw_tbl := ipz (fun q => Cond.methodLink (ipCN q.1) q.2.1 (ipY q.2.2.1)) ipVL ipVLi (by decide +kernel) (by decide +kernel)
set_option maxRecDepth 100000 in
theorem ipIL_w : ∀ q ∈ ipIL, Cond.methodLink (ipCN q.1) q.2.1 (ipY q.2.2.1) ∈ lw_tbl := ipz (fun q => Cond.methodLink (ipCN q.1) q.2.1 (ipY q.2.2.1)) ipIL ipILi (by decide +kernel) (by decide +kernel)
set_option maxRecDepth 100000 in
theorem ipNL_w : ∀ q ∈ ipNL, Cond.methodLinkNest (ipCN q.1) q.2.1 (ipY q.2.2.1) RX8 ∈ lw_tbl := ipz (fun q => Cond.methodLinkNest (ipCN q.1) q.2.1 (ipY q.2.2.1) RX8) ipNL ipNLi (by decide +kernel) (by decide +kernel)
set_option maxRecDepth 100000 in
theorem ipSL_w : ∀ q ∈ ipSL, Cond.methodLink (ipCN q.1) q.2.1 (ipY q.2.2.1) ∈ lw_tbl := ipz (fun q => Cond.methodLink (ipCN q.1) q.2.1 (ipY q.2.2.1)) ipSL ipSLi (by decide +kernel) (by decide +kernel)
set_option maxRecDepth 100000 in
theorem ipCL_w : ∀ q ∈ ipCL, Cond.classLink (ipCN q.1) q.2.1 (ipCN q.2.2) ∈ lw_tbl := ipz (fun q => Cond.classLink (ipCN q.1) q.2.1 (ipCN q.2.2)) ipCL ipCLi (by decide +kernel) (by decide +kernel)
def ipAC (t : Nat) : String := match t with
  | 4 => "SproutTable$Move"
  | 5 => "SproutTable$Position"
  | _ => "SproutTable$Notes"
set_option maxRecDepth 100000 in
theorem ipAL_w : ∀ q ∈ ipAL, Cond.classLink (ipCN q.1) q.2.1 (ipAC q.2.2) ∈ lw_tbl := ipz (fun q => Cond.classLink (ipCN q.1) q.2.1 (ipAC q.2.2)) ipAL ipALi (by decide +kernel) (by decide +kernel)
set_option maxRecDepth 100000 in
theorem ipKL_w : ∀ q ∈ ipKL, Cond.constant (ipCN q.1) q.2.1 (Int32.ofNat q.2.2) ∈ lw_tbl := ipz (fun q => Cond.constant (ipCN q.1) q.2.1 (Int32.ofNat q.2.2)) ipKL ipKLi (by decide +kernel) (by decide +kernel)
set_option maxRecDepth 100000 in
theorem ipKLL_w : ∀ q ∈ ipKLL, Cond.constantLong (ipCN q.1) q.2.1 (Int64.ofNat q.2.2) ∈ lw_tbl := ipz (fun q => Cond.constantLong (ipCN q.1) q.2.1 (Int64.ofNat q.2.2)) ipKLL ipKLLi (by decide +kernel) (by decide +kernel)
set_option maxRecDepth 100000 in
theorem ipOL_w : ∀ q ∈ ipOL, Cond.methodLink (ipCN q.1) q.2 Lib.objectInit ∈ lw_tbl := ipz (fun q => Cond.methodLink (ipCN q.1) q.2 Lib.objectInit) ipOL ipOLi (by decide +kernel) (by decide +kernel)
set_option maxRecDepth 100000 in
theorem ipXL_w : ∀ q ∈ ipXL, Cond.methodLink (ipCN q.1) q.2 arraycopyName ∈ lw_tbl := ipz (fun q => Cond.methodLink (ipCN q.1) q.2 arraycopyName) ipXL ipXLi (by decide +kernel) (by decide +kernel)
