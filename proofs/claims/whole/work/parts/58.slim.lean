/-! how small a reduced position is; the xor over its groups -/
def slim (R : PosT) : Prop := (∀ v ∈ R.1, 1 ≤ v) ∧ ∀ X ∈ R.2, X ≠ []
theorem len_cnt : ∀ (n : Nat) {l : List Nat}, (∀ a ∈ l, a < n) → (∀ a, a < n → l.count a ≤ 2) → l.length ≤ 2 * n
  | 0, l, h1, h2 => by
    cases l with
    | nil => exact Nat.le_refl _
    | cons a l => exact absurd (h1 a (List.mem_cons_self ..)) (Nat.not_lt_zero _)
  | n + 1, l, h1, h2 => by
    have e : ∀ l : List Nat, l.length = (l.filter (fun a => a != n)).length + l.count n := fun l => by
      induction l with
      | nil => rfl
      | cons a l ih =>
        rw [List.length_cons, ih, List.count_cons]
        by_cases q : a = n
        · rw [List.filter_cons_of_neg (by simp [q])]
          simp [q]
          omega
        · rw [List.filter_cons_of_pos (by simp [q]), List.length_cons]
          simp [q]
          omega
    have ih := len_cnt n (l := l.filter (fun a => a != n)) (fun a ha => by
      obtain ⟨q1, q2⟩ := List.mem_filter.mp ha
      have := h1 a q1
      have : a ≠ n := by simpa using q2
      omega) (fun a ha => Nat.le_trans (List.Sublist.count_le a List.filter_sublist) (h2 a (by omega)))
    have := h2 n (by omega)
    rw [e l]
    omega
theorem sum_ge : ∀ {l : List Nat}, (∀ v ∈ l, 1 ≤ v) → l.length ≤ l.sum
  | [], _ => Nat.le_refl _
  | a :: l, h => by
    have := sum_ge fun v hv => h v (List.mem_cons_of_mem a hv)
    have := h a (List.mem_cons_self ..)
    rw [List.length_cons, List.sum_cons]
    omega
theorem fl_ge {α : Type} : ∀ {l : List (List α)}, (∀ x ∈ l, x ≠ []) → l.length ≤ l.flatten.length
  | [], _ => Nat.le_refl _
  | a :: l, h => by
    have := fl_ge fun v hv => h v (List.mem_cons_of_mem a hv)
    have h1 := h a (List.mem_cons_self ..)
    have : 0 < a.length := List.length_pos_iff.mpr h1
    rw [List.length_cons, List.flatten_cons, List.length_append]
    omega
theorem slim_b {R : PosT} (hv : vld R) (hs : slim R) {n : Nat} (hn : R.1.sum ≤ n) : R.1.length ≤ n ∧ (pC R).length ≤ 2 * n ∧ (pW R).length ≤ 2 * n ∧ R.2.length ≤ 2 * n := by
  have h1 := sum_ge hs.1
  have h2 := len_cnt R.1.length hv.1.1 (fun a ha => by
    refine Nat.le_trans (hv.2.2 a ha) ?_
    have := hs.1 _ (List.mem_of_getElem? (gD (d := 0) ha))
    split <;> omega)
  have h3 : (pW R).length ≤ (pC R).length := fl_ge fun x hx => (hv.2.1 x hx).1
  have h4 : R.2.length ≤ (pW R).length := fl_ge hs.2
  omega
theorem slim_tiny {R : PosT} (hv : vld R) (hs : slim R) (hn : R.1.sum ≤ 9) : tiny R := by
  have := slim_b hv hs hn
  exact ⟨fun a ha => by have := hv.1.1 a ha; omega, hv.1.2⟩
theorem slim_wB {R : PosT} (hv : vld R) (hs : slim R) (hn : R.1.sum ≤ 9) : wB R := fun f => by
  have h1 := slim_b hv hs hn
  unfold fl
  by_cases q : f < R.2.length
  · have h2 := lSt_s (gD (d := []) q)
    have h3 := lSt_le (l := R.2) (f := f + 1)
    have h4 : R.2.flatten.length = (pW R).length := rfl
    omega
  · rw [List.getD_eq_getElem?_getD, List.getElem?_eq_none (by omega)]
    exact Nat.zero_le _
theorem slim_row {R : PosT} (hv : vld R) (hs : slim R) (hn : R.1.sum ≤ 9) {f u i v j s : Nat} (hL : legal R f u i v j s) : rowB (doMv R f u i v j s) := by
  have h1 := slim_b hv hs hn
  have h2 := sizes_mv hL
  have h3 := corners_mv hL hv.2.1
  have h4 : (doMv R f u i v j s).1.length = R.1.length + 1 := by
    obtain ⟨Fd, x, y, a, b, k1, k2, k3, k4, k5, k6⟩ := legal_at hL
    rw [doMv_1 k1 k2 k3 k4 k5, lvA_len]
  exact ⟨by omega, by omega, by omega, by omega⟩
/-- the fields below a group's number -/
def selB (g : Nat → Nat) (w : Nat) (F : List (List (List Nat))) : Nat → List (List (List Nat))
  | 0 => []
  | n + 1 => if g n < w then selB g w F n ++ [F.getD n []] else selB g w F n
theorem selB_s {g : Nat → Nat} {w : Nat} {F : List (List (List Nat))} : ∀ n, (selB g (w + 1) F n).Perm (selB g w F n ++ sel g w F n)
  | 0 => List.Perm.nil
  | n + 1 => by
    have ih := selB_s (g := g) (w := w) (F := F) n
    unfold selB sel
    by_cases e1 : g n < w
    · rw [if_pos e1, if_pos (by omega), if_neg (by omega)]
      refine (ih.append_right _).trans ?_
      rw [List.append_assoc, List.append_assoc]
      exact List.perm_append_comm.append_left _
    · by_cases e2 : g n = w
      · rw [if_neg e1, if_pos (by omega), if_pos e2, ← List.append_assoc]
        exact ih.append_right _
      · rw [if_neg e1, if_neg (by omega), if_neg e2]
        exact ih
theorem selB_0 {g : Nat → Nat} {F : List (List (List Nat))} : ∀ n, selB g 0 F n = []
  | 0 => rfl
  | n + 1 => by unfold selB; rw [if_neg (Nat.not_lt_zero _)]; exact selB_0 n
theorem selB_all {g : Nat → Nat} {w : Nat} {F : List (List (List Nat))} : ∀ n, n ≤ F.length → (∀ f, f < n → g f < w) → selB g w F n = F.take n
  | 0, _, _ => rfl
  | n + 1, h, hg => by
    unfold selB
    rw [if_pos (hg n (by omega)), selB_all n (by omega) fun f hf => hg f (by omega), List.take_succ, gD (d := []) (by omega : n < F.length)]
    rfl
theorem sel_mem {g : Nat → Nat} {w : Nat} {F : List (List (List Nat))} {X : List (List Nat)} : ∀ {n}, X ∈ sel g w F n → ∃ f, f < n ∧ g f = w ∧ X = F.getD f []
  | 0, h => by cases h
  | n + 1, h => by
    unfold sel at h
    by_cases e : g n = w
    · rw [if_pos e] at h
      rcases List.mem_append.mp h with h | h
      · obtain ⟨f, h1, h2, h3⟩ := sel_mem h
        exact ⟨f, by omega, h2, h3⟩
      · exact ⟨n, by omega, e, List.mem_singleton.mp h⟩
    · rw [if_neg e] at h
      obtain ⟨f, h1, h2, h3⟩ := sel_mem h
      exact ⟨f, by omega, h2, h3⟩
theorem selB_mem {g : Nat → Nat} {w : Nat} {F : List (List (List Nat))} {X : List (List Nat)} : ∀ {n}, X ∈ selB g w F n → ∃ f, f < n ∧ g f < w ∧ X = F.getD f []
  | 0, h => by cases h
  | n + 1, h => by
    unfold selB at h
    by_cases e : g n < w
    · rw [if_pos e] at h
      rcases List.mem_append.mp h with h | h
      · obtain ⟨f, h1, h2, h3⟩ := selB_mem h
        exact ⟨f, by omega, h2, h3⟩
      · exact ⟨n, by omega, e, List.mem_singleton.mp h⟩
    · rw [if_neg e] at h
      obtain ⟨f, h1, h2, h3⟩ := selB_mem h
      exact ⟨f, by omega, h2, h3⟩
theorem selB_sub {g : Nat → Nat} {w : Nat} {F : List (List (List Nat))} : ∀ n, n ≤ F.length → ∃ R, (F.take n).Perm (selB g w F n ++ R)
  | 0, _ => ⟨[], List.Perm.nil⟩
  | n + 1, h => by
    obtain ⟨R, hR⟩ := selB_sub (g := g) (w := w) (F := F) n (by omega)
    have e : F.take (n + 1) = F.take n ++ [F.getD n []] := by rw [List.take_succ, gD (d := []) (by omega : n < F.length)]; rfl
    rw [e]
    unfold selB
    split
    · refine ⟨R, (hR.append_right _).trans ?_⟩
      rw [List.append_assoc, List.append_assoc]
      exact List.perm_append_comm.append_left _
    · refine ⟨R ++ [F.getD n []], ?_⟩
      rw [← List.append_assoc]
      exact hR.append_right _
/-- the xor over the groups below w -/
def xsG (R : PosT) (g : Nat → Nat) : Nat → Nat
  | 0 => 0
  | w + 1 => if g w = w then xsG R g w ^^^ val (R.1, sel g w R.2 R.2.length) else xsG R g w
theorem val_nil {L : List Nat} : val (L, []) = 0 := by
  refine val_eq (fun f u i v j s h => ?_) (fun k h => absurd h (Nat.not_lt_zero _))
  obtain ⟨Fd, x, y, a, b, h1, -⟩ := legal_at h
  cases h1
theorem xs_val {R : PosT} {g : Nat → Nat} (hv : vld R) (hs : R.1.sum < 16) (hx : fix R.2.length g) (hg : ∀ s f f2, f < R.2.length → f2 < R.2.length → s ∈ (R.2.getD f []).flatten → s ∈ (R.2.getD f2 []).flatten → g f = g f2) : ∀ w, w ≤ R.2.length → val (R.1, selB g w R.2 R.2.length) = xsG R g w
  | 0, _ => by rw [selB_0]; exact val_nil
  | w + 1, hw => by
    have ih := xs_val hv hs hx hg w (by omega)
    have hsub : ∀ w, vld (R.1, selB g w R.2 R.2.length) := fun w => by
      obtain ⟨T, hT⟩ := selB_sub (g := g) (w := w) (F := R.2) R.2.length (Nat.le_refl _)
      rw [List.take_length] at hT
      exact vld_sub hv rfl ⟨T, hT⟩
    have hp := selB_s (g := g) (w := w) (F := R.2) R.2.length
    have hv2 : vld (R.1, selB g w R.2 R.2.length ++ sel g w R.2 R.2.length) := vld_sub (hsub (w + 1)) rfl ⟨[], by rw [List.append_nil]; exact hp⟩
    rw [val_RR (hsub (w + 1)) hv2 rfl (.perm hp)]
    rw [val_sum hs hv2 (fun a h1 h2 => ?_), ih]
    · show _ = if g w = w then _ else _
      by_cases e : g w = w
      · rw [if_pos e]
      · rw [if_neg e]
        have : sel g w R.2 R.2.length = [] := by
          cases hc : sel g w R.2 R.2.length with
          | nil => rfl
          | cons X l =>
            obtain ⟨f, k1, k2, k3⟩ := sel_mem (hc ▸ List.mem_cons_self .. : X ∈ sel g w R.2 R.2.length)
            have := (hx f k1).2
            rw [k2] at this
            exact absurd this e
        rw [this, val_nil, Nat.xor_zero]
    · exfalso
      obtain ⟨x, h3, h4⟩ := List.mem_flatten.mp h1
      obtain ⟨X, h5, h6⟩ := List.mem_flatten.mp h3
      obtain ⟨y, h7, h8⟩ := List.mem_flatten.mp h2
      obtain ⟨Y, h9, h10⟩ := List.mem_flatten.mp h7
      obtain ⟨f, k1, k2, rfl⟩ := selB_mem h5
      obtain ⟨f2, k3, k4, rfl⟩ := sel_mem h9
      have := hg a f f2 k1 k3 (List.mem_flatten.mpr ⟨x, h6, h4⟩) (List.mem_flatten.mpr ⟨y, h10, h8⟩)
      omega
theorem xs_all {R : PosT} (hv : vld R) (hs : R.1.sum < 16) : xsG R (grp R) R.2.length = val R := by
  obtain ⟨h1, h2⟩ := gA_ok (F := R.2) R.1.length
  have h3 : fix R.2.length (grp R) := h1
  rw [← xs_val hv hs h3 (fun s f f2 k1 k2 k3 k4 => ?_) R.2.length (Nat.le_refl _), selB_all _ (Nat.le_refl _) (fun f hf => h3.lt hf), List.take_length]
  refine h2 s ?_ f f2 k1 k2 k3 k4
  refine hv.1.1 s ?_
  obtain ⟨x, q1, q2⟩ := List.mem_flatten.mp k3
  exact List.mem_flatten.mpr ⟨x, List.mem_flatten.mpr ⟨_, List.mem_of_getElem? (gD (d := []) k1), q1⟩, q2⟩
theorem nI_or {a b : Nat} : nI a ||| nI b = nI (a ||| b) := by
  rw [← Int32.toBitVec_inj]
  show BitVec.ofNat 32 a ||| BitVec.ofNat 32 b = BitVec.ofNat 32 (a ||| b)
  refine BitVec.eq_of_toNat_eq ?_
  rw [BitVec.toNat_or, BitVec.toNat_ofNat, BitVec.toNat_ofNat, BitVec.toNat_ofNat, Nat.or_mod_two_pow]
theorem nI_xor {a b : Nat} : nI a ^^^ nI b = nI (a ^^^ b) := by
  rw [← Int32.toBitVec_inj]
  show BitVec.ofNat 32 a ^^^ BitVec.ofNat 32 b = BitVec.ofNat 32 (a ^^^ b)
  refine BitVec.eq_of_toNat_eq ?_
  rw [BitVec.toNat_xor, BitVec.toNat_ofNat, BitVec.toNat_ofNat, BitVec.toNat_ofNat, Nat.xor_mod_two_pow]
/-- worths that were met, as bits -/
def bitsL (l : List Nat) : Nat := l.foldl (fun m v => m ||| 2 ^ v) 0
theorem bits_s {l : List Nat} {v : Nat} : bitsL (l ++ [v]) = bitsL l ||| 2 ^ v := by
  unfold bitsL
  rw [List.foldl_append]
  rfl
theorem bits_tb : ∀ {l : List Nat} {m k : Nat}, (l.foldl (fun m v => m ||| 2 ^ v) m).testBit k = (m.testBit k || decide (k ∈ l))
  | [], m, k => by simp
  | a :: l, m, k => by
    rw [List.foldl_cons, bits_tb, Nat.testBit_or, Nat.testBit_two_pow, Bool.or_assoc]
    congr 1
    by_cases e : a = k
    · subst e; simp
    · have : k ≠ a := fun q => e q.symm
      simp [e, this]
theorem bits_at {l : List Nat} {k : Nat} : (bitsL l).testBit k = decide (k ∈ l) := by
  unfold bitsL
  rw [bits_tb]
  simp
theorem bits_lt {l : List Nat} {n : Nat} (h : ∀ v ∈ l, v < n) : bitsL l < 2 ^ n := by
  refine Nat.lt_pow_two_of_testBit _ fun i hi => ?_
  rw [bits_at]
  refine decide_eq_false fun q => ?_
  have := h i q
  omega
theorem bit_mod {m k : Nat} : m / 2 ^ k % 2 = 1 ↔ m.testBit k = true := by
  rw [Nat.testBit_eq_decide_div_mod_eq]
  simp
theorem shl_bit : ∀ v, v < 16 → (nI 1) <<< ((nI v) &&& 31) = nI (2 ^ v) := by
  intro v hv
  have h : ∀ k : Fin 16, (nI 1) <<< ((nI k.val) &&& 31) = nI (2 ^ k.val) := by decide +kernel
  exact h ⟨v, hv⟩
