/-! the makings of the table, of the solver, of the reference -/
theorem ipD3 : ipDef 3 = [.null, .null, .null, .null, .null, .null, .null, .null, .null, .int 0, .int 0, .long 0, .long 0] := by decide
theorem ipD7 : ipDef 7 = [.null, .null, .null, .null, .null, .null, .null, .null, .null] := by decide
theorem ipD9 : ipDef 9 = [.null, .null, .null, .null, .null, .int 0, .int 0, .int 0, .int 0, .int 0, .int 0, .int 0, .null, .null, .null, .int 0] := by decide
def mv0 : Nat → MvT := fun _ => ((0, 0, 0, 0, 0), 0)
def clB (h : HP) (T : Nat) : Prop := h T = some (.inr (8, tFs T none)) ∧ gmIs h (T + 1) 2 0 mv0 ∧ h (T + 148) = some (.inl (6, 4, .inr (.inr (.inr (.inr (fun _ => none)))))) ∧ mvO h (T + 149)
section INI
variable {sc : ipSc} {d z : Nat} {h : HP}
theorem t_tbinit {T : Nat} (hA : h T = some (.inr (8, ipDef 8))) : ipC sc (d + 6) 73 [.ref T] h (T + 1) 149 4976 (fun o h2 z2 => o = none ∧ z2 = T + 150 ∧ frm T 150 h h2 ∧ clB h2 T) := by
  rw [ipD8] at hA
  refine ipC_mk [some (.ref T)] rfl (Nat.le_of_ble_eq_true rfl) ?_
  refine b73_0g (mc := 146) (ms := 4964) (by omega) (by omega) (by omega) (by omega) (t_gminit (d := d + 2) (g := T + 1) hup_eq) ?_
  rintro o h2 z2 ⟨rfl, rfl, hf2, g1, g2, g3, g4⟩
  have h2T : h2 T = some (.inr (8, [.null, .null, .null, .null])) := (hf2 T (by omega)).trans (hup_ne (by omega) hA)
  refine b73_12gs (mc := 0) (ms := 0) h2T rfl (by omega) (by omega) (by omega) (by omega) (by omega) (by omega) (by omega) (t_minit (d := d + 4)) (kV ?_)
  have he : ∀ (e1 e2 e3 e4 e5 : hE) x, x ≠ T → x ≠ T + 148 → x ≠ T + 149 → hup (hup (hup (hup (hup h2 T e1) (T + 148) e2) T e3) (T + 149) e4) T e5 x = h2 x := fun e1 e2 e3 e4 e5 x q1 q2 q3 => hup_ne q1 (hup_ne q3 (hup_ne q1 (hup_ne q2 (hup_ne q1 rfl))))
  refine b73_31gs (mc := 0) (ms := 0) (hup_ne (by omega) hup_eq) rfl rfl (hup_ne (by omega) (hup_ne (by omega) (hup_ne (by omega) (hup_ne (by omega) g1)))) (by omega) (by omega) (by omega) (t_gstartO (d := d + 1) (n2 := 2) (mv := mv0) ((he _ _ _ _ _ _ (by omega) (by omega) (by omega)).trans g1) (g2.of (by omega) fun x q1 q2 => he _ _ _ _ _ x (by omega) (by omega) (by omega)) ?_ ?_ (by omega) (by omega)) ?_
  · obtain ⟨r, k3, k4⟩ := g3
    exact ⟨r, (he _ _ _ _ _ _ (by omega) (by omega) (by omega)).trans k3, k4⟩
  · intro k hk
    obtain ⟨pc, B, hB⟩ := g4 k hk
    exact ⟨pc, B, hB.off fun x q1 q2 => he _ _ _ _ _ x (by omega) (by omega) (by omega)⟩
  · rintro o h5 z5 ⟨rfl, rfl, hf5, H5⟩
    refine b73_42 ⟨rfl, rfl, fun x hx => ?_, (hf5 _ (by omega)).trans hup_eq, H5, (hf5 _ (by omega)).trans (hup_ne (by omega) (hup_ne (by omega) (hup_ne (by omega) hup_eq))), ⟨0, 0, 0, 0, 0, 0, (hf5 _ (by omega)).trans (hup_ne (by omega) (by rw [ipD2]; exact hup_eq))⟩⟩
    exact (hf5 x (by omega)).trans ((he _ _ _ _ _ _ (by omega) (by omega) (by omega)).trans ((hf2 x (by omega)).trans (hup_ne (by omega) rfl)))
theorem t_ptinit {b : Nat} (hA : h b = some (.inr (5, ipDef 5))) : ipC sc (d + 1) 29 [.ref b] h (b + 1) 4 117 (fun o h2 z2 => o = none ∧ z2 = b + 5 ∧ frm b 5 h h2 ∧ ∃ fl tm fi la lk, ptA h2 b fl tm fi la lk) := by
  rw [ipD5] at hA
  refine ipC_mk [some (.ref b)] rfl (Nat.le_of_ble_eq_true rfl) ?_
  refine b29_0 (by omega) (by omega) hA (by omega) rfl (by omega) (by omega) (by omega) (by omega) (by omega) (by omega) (by omega) (by omega) (by omega) ⟨rfl, rfl, fun x hx => ?_, 0, fun _ => 0, fun _ => 0, fun _ => 0, fun _ => 0, ?_, ?_, ?_, ?_, ?_⟩
  · repeat (refine hup_ne (by omega) ?_)
    rfl
  · exact hup_eq
  · repeat (first | exact hup_eq | refine hup_ne (by omega) ?_)
  · repeat (first | exact hup_eq | refine hup_ne (by omega) ?_)
  · repeat (first | exact hup_eq | refine hup_ne (by omega) ?_)
  · repeat (first | exact hup_eq | refine hup_ne (by omega) ?_)
theorem t_moinit {b : Nat} {V : Int64 → Int64 → Nat} (hA : h b = some (.inr (1, ipDef 1))) : ipC sc (d + 1) 6 [.ref b] h (b + 1) 3 12288 (fun o h2 z2 => o = none ∧ z2 = b + 4 ∧ frm b 4 h h2 ∧ moIs h2 b V) := by
  rw [ipD1] at hA
  refine ipC_mk [some (.ref b)] rfl (Nat.le_of_ble_eq_true rfl) ?_
  refine b6_0 (by omega) (by omega) hA (by omega) rfl (by omega) (by omega) (by omega) (by omega) (by omega) (by omega) ⟨rfl, rfl, fun x hx => ?_, fun _ => 0, fun _ => 0, fun _ => 0, ⟨?_, ?_, ?_, ?_⟩, fun s _ => Or.inl rfl⟩
  · repeat (refine hup_ne (by omega) ?_)
    rfl
  · exact hup_eq
  · repeat (first | exact hup_eq | refine hup_ne (by omega) ?_)
  · repeat (first | exact hup_eq | refine hup_ne (by omega) ?_)
  · repeat (first | exact hup_eq | refine hup_ne (by omega) ?_)
theorem t_nminit {b pt : Nat} (hA : h b = some (.inr (3, ipDef 3))) : ipC sc (d + 1) 14 [.ref b, .ref pt] h (b + 1) 8 589 (fun o h2 z2 => o = none ∧ z2 = b + 9 ∧ frm b 9 h h2 ∧ ∃ sg fr wr tx so tu wk en nr wc hi lo, nmA h2 b pt sg fr wr tx so tu wk en nr wc hi lo) := by
  rw [ipD3] at hA
  refine ipC_mk [some (.ref b), some (.ref pt)] rfl (Nat.le_of_ble_eq_true rfl) ?_
  refine b14_0 (by omega) (by omega) hA (by omega) rfl (by omega) (by omega) (by omega) (by omega) (by omega) (by omega) (by omega) (by omega) (by omega) (by omega) (by omega) (by omega) (by omega) (by omega) (by omega) (by omega) (by omega) (by omega) (by omega) (by omega) (by omega) ⟨rfl, rfl, fun x hx => ?_, fun _ => 0, fun _ => 0, fun _ => 0, fun _ => 0, fun _ => 0, fun _ => 0, fun _ => 0, fun _ => 0, 0, 0, 0, 0, ?_, ?_, ?_, ?_, ?_, ?_, ?_, ?_, ?_⟩
  · repeat (refine hup_ne (by omega) ?_)
    rfl
  · exact hup_eq
  · repeat (first | exact hup_eq | refine hup_ne (by omega) ?_)
  · repeat (first | exact hup_eq | refine hup_ne (by omega) ?_)
  · repeat (first | exact hup_eq | refine hup_ne (by omega) ?_)
  · repeat (first | exact hup_eq | refine hup_ne (by omega) ?_)
  · repeat (first | exact hup_eq | refine hup_ne (by omega) ?_)
  · repeat (first | exact hup_eq | refine hup_ne (by omega) ?_)
  · repeat (first | exact hup_eq | refine hup_ne (by omega) ?_)
  · repeat (first | exact hup_eq | refine hup_ne (by omega) ?_)
end INI
