/-! fields that share no live spot: their worths add up by xor -/
theorem vld_sub {P Q : PosT} (hP : vld P) (he : Q.1 = P.1) (h : ∃ R, P.2.Perm (Q.2 ++ R)) : vld Q := by
  obtain ⟨R, hR⟩ := h
  have hw : (pW P).Perm (pW Q ++ R.flatten) := by
    have := fl_perm hR
    rw [List.flatten_append] at this
    exact this
  have hc : (pC P).Perm (pC Q ++ R.flatten.flatten) := by
    have := fl_perm hw
    rw [List.flatten_append] at this
    exact this
  refine ⟨⟨fun a ha => ?_, ?_⟩, fun x hx => ?_, fun a ha => ?_⟩
  · rw [he]
    exact hP.1.1 a (hc.symm.subset (List.mem_append_left _ ha))
  · rw [he]
    exact hP.1.2
  · rw [he]
    exact hP.2.1 x (hw.symm.subset (List.mem_append_left _ hx))
  · rw [he] at ha ⊢
    refine Nat.le_trans ?_ (hP.2.2 a ha)
    have := hc.count_eq a
    rw [List.count_append] at this
    omega
theorem sum_f {L : List Nat} {A B : List (List (List Nat))} {f : Nat} : (A ++ B).getD (A.length + f) [] = B.getD f [] := by
  rw [List.getD_eq_getElem?_getD, List.getElem?_append_right (by omega), show A.length + f - A.length = f by omega, ← List.getD_eq_getElem?_getD]
theorem sum_legal {L : List Nat} {A B : List (List (List Nat))} {f u i v j s : Nat} : legal (L, A ++ B) (A.length + f) u i v j s ↔ legal (L, B) f u i v j s := by
  have e0 : ∀ f, (A ++ B).getD (A.length + f) [] = B.getD f [] := fun f => sum_f (L := L)
  have e : isTh (L, A ++ B) (A.length + f, u, i, v, j) = isTh (L, B) (f, u, i, v, j) := by
    unfold isTh fl wl
    simp only
    rw [e0, List.length_append]
    congr 1
    rw [Nat.add_lt_add_iff_left]
  have e2 : canT (L, A ++ B) (A.length + f, u, i, v, j) = canT (L, B) (f, u, i, v, j) := by
    unfold canT
    simp only
    rw [e0]
  have e3 : sidesP (L, A ++ B) (A.length + f, u, i, v, j) = sidesP (L, B) (f, u, i, v, j) := by
    unfold sidesP fl
    simp only
    rw [e0]
  unfold legal
  rw [e, e2, e3]
theorem sum_mv {L : List Nat} {A B : List (List (List Nat))} {f u i v j s : Nat} (h : legal (L, B) f u i v j s) : doMv (L, A ++ B) (A.length + f) u i v j s = ((doMv (L, B) f u i v j s).1, A ++ (doMv (L, B) f u i v j s).2) := by
  unfold doMv
  simp only
  rw [sum_f (L := L), List.set_append_right _ _ (by omega), List.set_append_right _ _ (by omega), show A.length + f - A.length = f by omega, List.append_assoc]
  split <;> rfl
theorem sum_f2 {A B : List (List (List Nat))} {f : Nat} (h : f < A.length) : (A ++ B).getD f [] = A.getD f [] := by
  rw [List.getD_eq_getElem?_getD, List.getElem?_append_left h, ← List.getD_eq_getElem?_getD]
theorem sum_legal2 {L : List Nat} {A B : List (List (List Nat))} {f u i v j s : Nat} (h : f < A.length) : legal (L, A ++ B) f u i v j s ↔ legal (L, A) f u i v j s := by
  have e : isTh (L, A ++ B) (f, u, i, v, j) = isTh (L, A) (f, u, i, v, j) := by
    unfold isTh fl wl
    simp only
    rw [sum_f2 h, List.length_append]
    congr 1
    have : (f < A.length + B.length) = (f < A.length) := propext ⟨fun _ => h, fun _ => by omega⟩
    rw [this]
  have e2 : canT (L, A ++ B) (f, u, i, v, j) = canT (L, A) (f, u, i, v, j) := by
    unfold canT
    simp only
    rw [sum_f2 h]
  have e3 : sidesP (L, A ++ B) (f, u, i, v, j) = sidesP (L, A) (f, u, i, v, j) := by
    unfold sidesP fl
    simp only
    rw [sum_f2 h]
  unfold legal
  rw [e, e2, e3]
theorem sum_mv2 {L : List Nat} {A B : List (List (List Nat))} {f u i v j s : Nat} (h : f < A.length) : (doMv (L, A ++ B) f u i v j s).1 = (doMv (L, A) f u i v j s).1 ∧ (doMv (L, A ++ B) f u i v j s).2.Perm (B ++ (doMv (L, A) f u i v j s).2) := by
  unfold doMv
  simp only
  rw [sum_f2 h, List.set_append_left _ _ h, List.set_append_left _ _ h]
  refine ⟨rfl, ?_⟩
  split
  · rw [← List.append_assoc B]
    exact List.perm_append_comm.append_right _
  · exact List.perm_append_comm
theorem xor_lt : ∀ g : Fin 16, ∀ h : Fin 16, ∀ k : Fin 16, k.val < (g.val ^^^ h.val) → (k.val ^^^ h.val) < g.val ∨ (k.val ^^^ g.val) < h.val := by decide +kernel
theorem xor_16 : ∀ g : Fin 16, ∀ h : Fin 16, (g.val ^^^ h.val) < 16 := by decide +kernel
theorem xor_inj {x y z : Nat} (h : x ^^^ z = y ^^^ z) : x = y := by
  have := congrArg (· ^^^ z) h
  simp only [Nat.xor_assoc, Nat.xor_self, Nat.xor_zero] at this
  exact this
/-- no live spot in both -/
def apart (L : List Nat) (A B : List (List (List Nat))) : Prop := ∀ a, a ∈ A.flatten.flatten → a ∈ B.flatten.flatten → L.getD a 0 = 0
theorem sum_side {L : List Nat} {A B : List (List (List Nat))} (hv : vld (L, A ++ B)) (ha : apart L A B) (ih : ∀ L2 A2 B2, L2.sum < L.sum → vld (L2, A2 ++ B2) → apart L2 A2 B2 → val (L2, A2 ++ B2) = val (L2, A2) ^^^ val (L2, B2)) {f u i v j s : Nat} (h : legal (L, B) f u i v j s) : val (doMv (L, A ++ B) (A.length + f) u i v j s) = val (L, A) ^^^ val (doMv (L, B) f u i v j s) := by
  have hB : vld (L, B) := vld_sub hv rfl ⟨A, List.perm_append_comm⟩
  have hA : vld (L, A) := vld_sub hv rfl ⟨B, List.Perm.refl _⟩
  have hl2 := sum_legal (A := A).mpr h
  have hv2 := vld_mv hv hl2
  have hs := mv_sum h
  rw [sum_mv h] at hv2 ⊢
  obtain ⟨a, b, E, h1, h2, h3, h4, h5, h6⟩ := mv_corners h hB.2.1
  obtain ⟨c1, c2, c3⟩ := cM_ab h1
  have hlen : (doMv (L, B) f u i v j s).1.length = L.length + 1 := by rw [h4, lvA_len]
  have hA2 : vld ((doMv (L, B) f u i v j s).1, A) := vld_sub hv2 rfl ⟨(doMv (L, B) f u i v j s).2, List.Perm.refl _⟩
  have hap : apart (doMv (L, B) f u i v j s).1 A (doMv (L, B) f u i v j s).2 := fun q hq1 hq2 => by
    have hql : q < L.length := hA.1.1 q hq1
    rcases mem_mv h hB.2.1 hq2 with r | r
    · have := ha q hq1 r
      have h7 := lvA_le (lv := L) (a := a) (b := b) hql
      rw [h4]
      show (lvA L a b).getD q 0 = 0
      omega
    · have r : q = L.length := r
      omega
  rw [ih _ _ _ (by simpa using (by omega : (doMv (L, B) f u i v j s).1.sum < (L, B).1.sum)) hv2 hap]
  congr 1
  refine (val_lives hA hA2 rfl fun q hq => ?_).symm
  have hql : q < L.length := hA.1.1 q hq
  rw [h4]
  show (lvA L a b).getD q 0 = L.getD q 0
  have n1 : q ≠ a := fun r => by
    subst r
    have : L.getD q 0 = 0 := ha q hq h2
    have c2 : 1 ≤ L.getD q 0 := c2
    omega
  have n2 : q ≠ b := fun r => by
    subst r
    have : L.getD q 0 = 0 := ha q hq h3
    have c3 : 1 ≤ L.getD q 0 := c3
    omega
  rw [lvA_get hql, if_neg n1, if_neg n2]
  rfl
theorem val_sum_n : ∀ n L A B, L.sum ≤ n → n < 16 → vld (L, A ++ B) → apart L A B → val (L, A ++ B) = val (L, A) ^^^ val (L, B) := by
  intro n
  induction n with
  | zero =>
    intro L A B h1 h2 hv ha
    have e : ∀ F : List (List (List Nat)), val (L, F) = 0 := fun F => by
      have := val_le (P := (L, F))
      have h3 : (L, F).1.sum = L.sum := rfl
      omega
    rw [e, e, e]
    rfl
  | succ n ih0 =>
    intro L A B h1 h2 hv ha
    have ih : ∀ L2 A2 B2, L2.sum < L.sum → vld (L2, A2 ++ B2) → apart L2 A2 B2 → val (L2, A2 ++ B2) = val (L2, A2) ^^^ val (L2, B2) := fun L2 A2 B2 h3 h4 h5 => ih0 L2 A2 B2 (by omega) (by omega) h4 h5
    have hvc : vld (L, B ++ A) := vld_sub hv rfl ⟨[], by rw [List.append_nil]; exact List.perm_append_comm⟩
    have hac : apart L B A := fun a x y => ha a y x
    have hg : val (L, A) < 16 := Nat.lt_of_le_of_lt val_le (by show L.sum < 16; omega)
    have hh : val (L, B) < 16 := Nat.lt_of_le_of_lt val_le (by show L.sum < 16; omega)
    have sB : ∀ {f u i v j s : Nat}, legal (L, B) f u i v j s → val (doMv (L, A ++ B) (A.length + f) u i v j s) = val (L, A) ^^^ val (doMv (L, B) f u i v j s) := fun h => sum_side hv ha ih h
    have sA : ∀ {f u i v j s : Nat}, legal (L, A) f u i v j s → val (doMv (L, B ++ A) (B.length + f) u i v j s) = val (L, B) ^^^ val (doMv (L, A) f u i v j s) := fun h => sum_side hvc hac ih h
    have hsw : RR L (A ++ B) (B ++ A) := .perm List.perm_append_comm
    refine val_eq (fun f u i v j s hl q => ?_) (fun k hk => ?_)
    · by_cases hf : A.length ≤ f
      · obtain ⟨f2, rfl⟩ : ∃ f2, f = A.length + f2 := ⟨f - A.length, by omega⟩
        have hl2 := (sum_legal (A := A)).mp hl
        rw [sB hl2, Nat.xor_comm, Nat.xor_comm (val (L, A))] at q
        exact val_not hl2 (xor_inj q)
      · have hl2 := (sum_legal2 (B := B) (by omega : f < A.length)).mp hl
        obtain ⟨e1, e2⟩ := sum_mv2 (L := L) (B := B) (u := u) (i := i) (v := v) (j := j) (s := s) (by omega : f < A.length)
        have k1 := (sum_legal (A := B)).mpr hl2
        have k4 := val_RR (vld_mv hv hl) (vld_mv hvc k1) (by rw [sum_mv hl2, e1]) (by rw [sum_mv hl2]; exact .perm e2)
        rw [k4, sA hl2, Nat.xor_comm] at q
        exact val_not hl2 (xor_inj q)
    · rcases xor_lt ⟨_, hg⟩ ⟨_, hh⟩ ⟨k, Nat.lt_trans hk (xor_16 ⟨_, hg⟩ ⟨_, hh⟩)⟩ hk with r | r
      · obtain ⟨f, u, i, v, j, s, h3, h4⟩ := val_opt r
        have h5 := (sum_legal (A := B)).mpr h3
        obtain ⟨f2, u2, i2, v2, j2, s2, k1, k2, k3⟩ := RR_step hvc hv rfl hsw.symm h5
        refine ⟨f2, u2, i2, v2, j2, s2, k1, ?_⟩
        rw [← val_RR (vld_mv hvc h5) (vld_mv hv k1) k2 k3, sA h3, h4, Nat.xor_comm k, ← Nat.xor_assoc, Nat.xor_self, Nat.zero_xor]
      · obtain ⟨f, u, i, v, j, s, h3, h4⟩ := val_opt r
        refine ⟨_, _, _, _, _, _, (sum_legal (A := A)).mpr h3, ?_⟩
        rw [sB h3, h4, Nat.xor_comm k, ← Nat.xor_assoc, Nat.xor_self, Nat.zero_xor]
theorem val_sum {L : List Nat} {A B : List (List (List Nat))} (hs : L.sum < 16) (hv : vld (L, A ++ B)) (ha : apart L A B) : val (L, A ++ B) = val (L, A) ^^^ val (L, B) := val_sum_n _ L A B (Nat.le_refl _) hs hv ha
