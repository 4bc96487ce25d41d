/-! the number of pieces -/
def pcs (P : PosT) (c : Nat) : Prop := ∃ g, good P g ∧ cntF g P.1.length = c
theorem cntF_id : ∀ n, cntF (fun s => s) n = n
  | 0 => rfl
  | n + 1 => by
    unfold cntF
    rw [cntF_id n, if_pos rfl]
theorem pcs_start {n : Nat} : pcs (start n) n := by
  refine ⟨fun s => s, ⟨fun s _ => ⟨Nat.le_refl _, rfl⟩, fun x hx a ha b hb => ?_, fun χ _ s _ => rfl⟩, ?_⟩
  · have hx : x ∈ ([(List.range n).map (fun k => [k])] : List (List (List Nat))).flatten := hx
    rw [List.flatten_cons, List.flatten_nil, List.append_nil] at hx
    obtain ⟨k, -, rfl⟩ := List.mem_map.mp hx
    rw [List.mem_singleton.mp ha, List.mem_singleton.mp hb]
  · have : (start n).1.length = n := List.length_replicate
    rw [this]
    exact cntF_id n
