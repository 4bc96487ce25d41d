/-! the class's Parts: read -/
def ptA (h : HP) (b : Nat) (fl : Int32) (tm fi la lk : Nat → Int32) : Prop := h b = some (.inr (5, [.ref (b + 1), .ref (b + 2), .ref (b + 3), .ref (b + 4), .int fl])) ∧ h (b + 1) = some (.inl (0, 31, .inl tm)) ∧ h (b + 2) = some (.inl (0, 31, .inl fi)) ∧ h (b + 3) = some (.inl (0, 31, .inl la)) ∧ h (b + 4) = some (.inl (0, 24, .inl lk))
/-- what is read: the spots with the fields that they stand in -/
def ptS (n nf : Nat) (pr : List (Nat × Nat)) (tm fi lk : Nat → Int32) (fN lN : Nat → Nat) : Prop := (∀ a, a < n → tm a = nI (pr.countP (fun x => x.1 == a))) ∧ (∀ a g, (a, g) ∈ pr → fi a = nI (fN a) ∧ (a, fN a) ∈ pr) ∧ (∀ a g, (a, g) ∈ pr → g < nf ∧ a < n) ∧ (∀ g, g < nf → lk g = nI (lN g)) ∧ (∀ g g2, g < nf → g2 < nf → (lN g).testBit g2 = (lN g2).testBit g) ∧ (∀ a g, (a, g) ∈ pr → fN a = g ∨ (lN g).testBit (fN a) = true) ∧ (∀ g i, g < nf → (lN g).testBit i = true → i < nf) ∧ nf ≤ 24 ∧ n ≤ 31
theorem shl_bit2 : ∀ v, v < 24 → (nI 1) <<< ((nI v) &&& 31) = nI (2 ^ v) := by
  intro v hv
  have h : ∀ k : Fin 24, (nI 1) <<< ((nI k.val) &&& 31) = nI (2 ^ k.val) := by decide +kernel
  exact h ⟨v, hv⟩
theorem cnt_pr {pr : List (Nat × Nat)} {a : Nat} : pr.countP (fun x => x.1 == a) = 0 ↔ ∀ g, (a, g) ∉ pr := by
  rw [List.countP_eq_zero]
  constructor
  · intro h g hg
    exact h _ hg (by simp)
  · intro h x hx q
    have : x.1 = a := by simpa using q
    subst this
    exact h x.2 hx
theorem tb_or {a b i : Nat} : (a ||| 2 ^ b).testBit i = (a.testBit i || decide (b = i)) := by rw [Nat.testBit_or, Nat.testBit_two_pow]
def lkU (lN : Nat → Nat) (f e : Nat) : Nat → Nat := fun g => if g = e then (if e = f then lN f ||| 2 ^ e else lN e) ||| 2 ^ f else if g = f then lN f ||| 2 ^ e else lN g
theorem lkU_tb {lN : Nat → Nat} {f e g i : Nat} : (lkU lN f e g).testBit i = true ↔ ((lN g).testBit i = true ∨ (g = f ∧ e = i) ∨ (g = e ∧ f = i)) := by
  unfold lkU
  by_cases q1 : g = e
  · subst q1
    rw [if_pos rfl, tb_or]
    by_cases q2 : g = f
    · subst q2
      rw [if_pos rfl, tb_or]
      simp
    · rw [if_neg q2]
      simp [q2]
  · rw [if_neg q1]
    by_cases q2 : g = f
    · subst q2
      rw [if_pos rfl, tb_or]
      simp [q1]
    · rw [if_neg q2]
      simp [q1, q2]
section PT
variable {sc : ipSc} {d z b n nf : Nat} {h : HP} {fl : Int32} {tm fi la lk : Nat → Int32} {pr : List (Nat × Nat)} {fN lN : Nat → Nat}
def ptQ (h : HP) (b z : Nat) (R : HP → Prop) : ipQ := fun o h2 z2 => o = none ∧ z2 = z ∧ frm b 5 h h2 ∧ R h2
theorem t_note (H : ptA h b fl tm fi la lk) (S : ptS n nf pr tm fi lk fN lN) (hpl : pr.length < 200) {a f : Nat} (ha : a < n) (hf : f < nf) (hlast : ∀ x ∈ pr, x.2 ≤ f) : ipC sc (d + 1) 31 [.ref b, .int (nI a), .int (nI f)] h z 0 0 (ptQ h b z (fun h2 => ∃ tm2 fi2 la2 lk2 fN2 lN2, ptA h2 b fl tm2 fi2 la2 lk2 ∧ ptS n nf (pr ++ [(a, f)]) tm2 fi2 lk2 fN2 lN2)) := by
  obtain ⟨h0, h1, h2, h3, h4⟩ := H
  obtain ⟨s1, s2, s3, s4, s5, s6, s7, s8, s9⟩ := S
  have hc := List.countP_le_length (p := fun x => x.1 == a) (l := pr)
  have cnt : ∀ x, x < n → upd tm a (nI (pr.countP (fun x => x.1 == a) + 1)) x = nI ((pr ++ [(a, f)]).countP (fun y => y.1 == x)) := fun x hx => by
    rw [List.countP_append]
    by_cases e : x = a
    · subst e
      rw [pk_us]
      simp
    · rw [pk_un e, s1 x hx]
      have : ¬ a = x := fun q => e q.symm
      simp [this]
  refine ipC_mk [some (.ref b), some (.int (nI a)), some (.int (nI f))] rfl (Nat.le_of_ble_eq_true rfl) ?_
  refine c31_0 h0 rfl h1 (by omega) (by decide) (s1 a ha) rfl (by omega) rfl h3 (by omega) (by omega) (by decide) rfl (by omega) (by omega) (v25 := pr.countP (fun x => x.1 == a) + 1) pk_us (by omega) (fun r => ?_) (fun r => ?_)
  · have hne : pr.countP (fun x => x.1 == a) ≠ 0 := by omega
    obtain ⟨g0, hg0⟩ : ∃ g, (a, g) ∈ pr := Classical.byContradiction fun q => hne (cnt_pr.mpr fun g hg => q ⟨g, hg⟩)
    obtain ⟨e1, e2⟩ := s2 a g0 hg0
    have hfn := (s3 a _ e2).1
    refine c31_37 (hup_ne (by omega) (hup_ne (by omega) h0)) rfl (hup_ne (by omega) (hup_ne (by omega) h4)) (by omega) (by decide) (s4 f hf) rfl (hup_ne (by omega) (hup_ne (by omega) h2)) (by omega) (by decide) e1 rfl (by omega) (by omega) (by omega) (v24 := if fN a = f then lN f ||| 2 ^ (fN a) else lN (fN a)) ?_ rfl (c31_71 ⟨rfl, rfl, (((frm.rf.up (by omega)).up (by omega)).up (by omega)), upd tm a (nI (pr.countP (fun x => x.1 == a) + 1)), fi, upd la a (nI f), _, fN, lkU lN f (fN a), ⟨?_, ?_, ?_, ?_, hup_eq⟩, cnt, ?_, ?_, ?_, ?_, ?_, ?_, s8, s9⟩)
    · rw [shl_bit2 _ (by omega), nI_or]
      by_cases q : fN a = f
      · rw [if_pos q, q, pk_us]
      · rw [if_neg q, pk_un q]
        exact s4 _ hfn
    · exact hup_ne (by omega) (hup_ne (by omega) (hup_ne (by omega) h0))
    · exact hup_ne (by omega) (hup_ne (by omega) hup_eq)
    · exact hup_ne (by omega) (hup_ne (by omega) (hup_ne (by omega) h2))
    · exact hup_ne (by omega) hup_eq
    · intro x g hx
      rcases List.mem_append.mp hx with hx | hx
      · obtain ⟨q1, q2⟩ := s2 x g hx
        exact ⟨q1, List.mem_append_left _ q2⟩
      · have := List.mem_singleton.mp hx
        injection this with q1 q2
        subst q1
        exact ⟨e1, List.mem_append_left _ e2⟩
    · intro x g hx
      rcases List.mem_append.mp hx with hx | hx
      · exact s3 x g hx
      · have := List.mem_singleton.mp hx
        injection this with q1 q2
        subst q1 q2
        exact ⟨hf, ha⟩
    · intro g hg
      rw [shl_bit2 _ (by omega), shl_bit2 _ (by omega), nI_or, nI_or]
      unfold lkU
      by_cases q : g = fN a
      · rw [if_pos q, q, pk_us]
      · rw [if_neg q, pk_un q]
        by_cases q2 : g = f
        · rw [if_pos q2, q2, pk_us]
        · rw [if_neg q2, pk_un q2]
          exact s4 g hg
    · intro g g2 hg hg2
      have k := s5 g g2 hg hg2
      rw [Bool.eq_iff_iff, lkU_tb, lkU_tb, k]
      constructor
      · rintro (q | q | q)
        · exact Or.inl q
        · exact Or.inr (Or.inr (by omega))
        · exact Or.inr (Or.inl (by omega))
      · rintro (q | q | q)
        · exact Or.inl q
        · exact Or.inr (Or.inr (by omega))
        · exact Or.inr (Or.inl (by omega))
    · intro x g hx
      rcases List.mem_append.mp hx with hx | hx
      · rcases s6 x g hx with q | q
        · exact Or.inl q
        · exact Or.inr (lkU_tb.mpr (Or.inl q))
      · have := List.mem_singleton.mp hx
        injection this with q1 q2
        subst q1 q2
        exact Or.inr (lkU_tb.mpr (Or.inr (Or.inl ⟨rfl, rfl⟩)))
    · intro g i hg hi
      rcases lkU_tb.mp hi with q | q | q
      · exact s7 g i hg q
      · omega
      · omega
  · have hz : pr.countP (fun x => x.1 == a) = 0 := by omega
    have hno := cnt_pr.mp hz
    refine c31_27 (hup_ne (by omega) (hup_ne (by omega) h0)) rfl (hup_ne (by omega) (hup_ne (by omega) h2)) (by omega) (by decide) rfl (c31_71 ⟨rfl, rfl, (((frm.rf.up (by omega)).up (by omega)).up (by omega)), upd tm a (nI (pr.countP (fun x => x.1 == a) + 1)), upd fi a (nI f), upd la a (nI f), lk, fun x => if x = a then f else fN x, lN, ⟨?_, ?_, hup_eq, ?_, ?_⟩, cnt, ?_, ?_, s4, s5, ?_, s7, s8, s9⟩)
    · exact hup_ne (by omega) (hup_ne (by omega) (hup_ne (by omega) h0))
    · exact hup_ne (by omega) (hup_ne (by omega) hup_eq)
    · exact hup_ne (by omega) hup_eq
    · exact hup_ne (by omega) (hup_ne (by omega) (hup_ne (by omega) h4))
    · intro x g hx
      show _ = nI (if x = a then f else fN x) ∧ (x, if x = a then f else fN x) ∈ _
      rcases List.mem_append.mp hx with hx | hx
      · have e : x ≠ a := fun q => hno g (q ▸ hx)
        rw [if_neg e, pk_un e]
        obtain ⟨q1, q2⟩ := s2 x g hx
        exact ⟨q1, List.mem_append_left _ q2⟩
      · have := List.mem_singleton.mp hx
        injection this with q1 q2
        subst q1
        rw [if_pos rfl, pk_us]
        exact ⟨rfl, by simp⟩
    · intro x g hx
      rcases List.mem_append.mp hx with hx | hx
      · exact s3 x g hx
      · have := List.mem_singleton.mp hx
        injection this with q1 q2
        subst q1 q2
        exact ⟨hf, ha⟩
    · intro x g hx
      show (if x = a then f else fN x) = g ∨ (lN g).testBit (if x = a then f else fN x) = true
      rcases List.mem_append.mp hx with hx | hx
      · have e : x ≠ a := fun q => hno g (q ▸ hx)
        rw [if_neg e]
        exact s6 x g hx
      · have := List.mem_singleton.mp hx
        injection this with q1 q2
        subst q1 q2
        rw [if_pos rfl]
        exact Or.inl rfl
end PT
