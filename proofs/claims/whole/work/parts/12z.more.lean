theorem hup_hup {h : HP} {r : Nat} {e1 e2 : hE} : hup (hup h r e1) r e2 = hup h r e2 := by
  funext x
  unfold hup
  by_cases q : x = r
  · rw [if_pos q, if_pos q]
  · rw [if_neg q, if_neg q, if_neg q]
theorem nI_dec {a : Nat} (h : 1 ≤ a) : nI a + Int32.ofInt (-1) = nI (a - 1) := by
  obtain ⟨k, rfl⟩ : ∃ k, a = k + 1 := ⟨a - 1, by omega⟩
  show nI (k + 1) + (-1) = nI (k + 1 - 1)
  rw [pk_m1]
  rfl
