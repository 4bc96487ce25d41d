/-! the makings -/
theorem ipD0 : ipDef 0 = [.null, .null] := by decide
theorem ipD1 : ipDef 1 = [.null, .null, .null] := by decide
theorem ipD2 : ipDef 2 = [.int 0, .int 0, .int 0, .int 0, .int 0, .int 0] := by decide
theorem ipD4 : ipDef 4 = [.null, .int 0, .int 0] := by decide
theorem ipD5 : ipDef 5 = [.null, .null, .null, .null, .int 0] := by decide
theorem ipD6 : ipDef 6 = [.int 0, .null, .null, .null, .null, .int 0, .int 0, .int 0, .int 0, .int 0, .int 0] := by decide
theorem ipD8 : ipDef 8 = [.null, .null, .null, .null] := by decide
theorem upE {f : Nat → Option Nat} {k : Nat} {v : Option Nat} : va_up f k v k = v := by unfold va_up; simp
theorem upN {f : Nat → Option Nat} {k j : Nat} {v : Option Nat} (h : j ≠ k) : va_up f k v j = f j := by unfold va_up; simp [h]
section INI
variable {sc : ipSc} {d z : Nat} {h : HP}
theorem t_minit {b : Nat} : ipC sc (d + 1) 10 [.ref b] h z 0 0 (qV h z) := by
  refine ipC_mk [some (.ref b)] rfl (Nat.le_of_ble_eq_true rfl) ?_
  exact b10_0 ⟨rfl, rfl, rfl⟩
theorem t_posinit {b le : Nat} (hA : h b = some (.inr (6, ipDef 6))) (hle : le ≤ 1) : ipC sc (d + 1) 35 [.ref b, .int (nI le)] h (b + 1) 4 188 (fun o h2 z2 => o = none ∧ z2 = b + 5 ∧ frm b 5 h h2 ∧ pbIs h2 b le 0 ([], [], [], [])) := by
  rw [ipD6] at hA
  have hfit : ipFit 6 0 (.int (nI le)) := by
    have : le = 0 ∨ le = 1 := by omega
    rcases this with rfl | rfl
    · exact ⟨by decide, by decide⟩
    · exact ⟨by decide, by decide⟩
  refine ipC_mk [some (.ref b), some (.int (nI le))] rfl (Nat.le_of_ble_eq_true rfl) ?_
  refine b35_0 (by omega) (by omega) hA (by omega) rfl (by omega) (by omega) (by omega) (by omega) (by omega) (by omega) (by omega) (by omega) (by omega) hfit ⟨rfl, rfl, fun x hx => ?_, hle, fun _ => 0, fun _ => 0, fun _ => 0, fun _ => 0, ⟨?_, ?_, ?_, ?_, ?_⟩, rowL_nil, rowL_nil, fun k hk => ?_, fun k hk => ?_, by decide, by decide, by decide, by decide⟩
  · repeat (refine hup_ne (by omega) ?_)
    rfl
  · exact hup_eq
  · repeat (first | exact hup_eq | refine hup_ne (by omega) ?_)
  · repeat (first | exact hup_eq | refine hup_ne (by omega) ?_)
  · repeat (first | exact hup_eq | refine hup_ne (by omega) ?_)
  · repeat (first | exact hup_eq | refine hup_ne (by omega) ?_)
  · have : k = 0 := Nat.le_zero.mp hk
    subst this
    rfl
  · have : k = 0 := Nat.le_zero.mp hk
    subst this
    rfl
theorem t_ntinit {A : Nat} {mv : Nat → MvT} (hA : h A = some (.inr (4, ipDef 4))) : ipC sc (d + 2) 27 [.ref A] h (A + 1) 24 161 (fun o h2 z2 => o = none ∧ z2 = A + 25 ∧ frm A 25 h h2 ∧ ntIs h2 A 0 0 mv) := by
  rw [ipD4] at hA
  refine ipC_mk [some (.ref A), none] rfl (Nat.le_of_ble_eq_true rfl) ?_
  refine b27_0 (by omega) (by omega) hA (by omega) rfl ?_
  have loop : ∀ (m i c s : Nat) (h3 : HP) (r : Nat → Option Nat), i + m = 23 → c = 1 + i → s = 23 + 6 * i → frm A 25 h h3 → h3 A = some (.inr (4, [.ref (A + 1), .int 0, .int 0])) → h3 (A + 1) = some (.inl (4, 23, .inr (.inr (.inr (.inr r))))) → (∀ k, k < i → r k = some (A + 2 + k)) → (∀ k, k < i → mvO h3 (A + 2 + k)) → ip sc (ipC sc (d + 1)) 27 24 161 (fun o h2 z2 => o = none ∧ z2 = A + 25 ∧ frm A 25 h h2 ∧ ntIs h2 A 0 0 mv) 15 [some (.ref A), some (.int (nI i))] [] h3 (A + 2 + i) c s := by
    intro m
    induction m with
    | zero =>
      intro i c s h3 r hi hc hs hf g1 g2 g3 g4
      have : i = 23 := by omega
      subst this
      exact c27_15 (by omega) (fun _ => c27_40 ⟨rfl, rfl, hf, g1, ⟨r, g2, g3⟩, g4, fun k hk => absurd hk (by omega)⟩) (fun r => absurd (by omega) r)
    | succ m ih =>
      intro i c s h3 r hi hc hs hf g1 g2 g3 g4
      refine c27_15 (by omega) (fun r => absurd r (by omega)) (fun _ => ?_)
      refine b27_21g g1 rfl (by omega) (by omega) (mc := 0) (ms := 0) (by omega) (by omega) (t_minit (d := d)) (kV ?_)
      refine c27_33 (hup_ne (by omega) g2) (by omega) (by decide) hup_eq rfl ?_
      refine ih (i + 1) _ _ _ _ (by omega) (by omega) (by omega) ((hf.up (by omega)).up (by omega)) (hup_ne (by omega) (hup_ne (by omega) g1)) hup_eq (fun k hk => ?_) (fun k hk => ?_)
      · by_cases e : k = i
        · subst e
          exact upE
        · rw [upN e]
          exact g3 k (by omega)
      · by_cases e : k = i
        · subst e
          exact ⟨0, 0, 0, 0, 0, 0, hup_ne (by omega) (by rw [ipD2]; exact hup_eq)⟩
        · exact (g4 k (by omega)).off (hup_ne (by omega) (hup_ne (by omega) rfl))
  exact loop 23 0 _ _ _ _ (by omega) (by omega) (by omega) ((frm.rf.up (by omega)).up (by omega)) hup_eq (hup_ne (by omega) hup_eq) (fun k hk => absurd hk (by omega)) (fun k hk => absurd hk (by omega))
/-- a game that has not begun: its objects -/
def gmO (h : HP) (g : Nat) : Prop := h g = some (.inr (0, [.ref (g + 1), .ref (g + 26)])) ∧ ntIs h (g + 1) 0 0 (fun _ => ((0, 0, 0, 0, 0), 0)) ∧ (∃ r, h (g + 26) = some (.inl (5, 24, .inr (.inr (.inr (.inr r))))) ∧ ∀ k, k < 24 → r k = some (g + 27 + 5 * k)) ∧ ∀ k, k < 24 → ∃ pc B, pbIs h (g + 27 + 5 * k) 0 pc B
theorem t_gminit {g : Nat} (hA : h g = some (.inr (0, ipDef 0))) : ipC sc (d + 3) 0 [.ref g] h (g + 1) 146 4964 (fun o h2 z2 => o = none ∧ z2 = g + 147 ∧ frm g 147 h h2 ∧ gmO h2 g) := by
  rw [ipD0] at hA
  refine ipC_mk [some (.ref g), none] rfl (Nat.le_of_ble_eq_true rfl) ?_
  refine b0_0g (mc := 24) (ms := 161) (by omega) (by omega) (by omega) (by omega) (t_ntinit (d := d) (A := g + 1) (mv := fun _ => ((0, 0, 0, 0, 0), 0)) hup_eq) ?_
  rintro o h2 z2 ⟨rfl, rfl, hf2, H2⟩
  have h2g : h2 g = some (.inr (0, [.null, .null])) := (hf2 g (by omega)).trans (hup_ne (by omega) hA)
  refine b0_12s h2g rfl (by omega) (by omega) (by omega) ?_
  have loop : ∀ (m i c s zz : Nat) (h3 : HP) (r : Nat → Option Nat), i + m = 24 → c = 26 + 5 * i → s = 188 + 199 * i → zz = g + 27 + 5 * i → frm g 147 h h3 → h3 g = some (.inr (0, [.ref (g + 1), .ref (g + 26)])) → ntIs h3 (g + 1) 0 0 (fun _ => ((0, 0, 0, 0, 0), 0)) → h3 (g + 26) = some (.inl (5, 24, .inr (.inr (.inr (.inr r))))) → (∀ k, k < i → r k = some (g + 27 + 5 * k)) → (∀ k, k < i → ∃ pc B, pbIs h3 (g + 27 + 5 * k) 0 pc B) → ip sc (ipC sc (d + 2)) 0 146 4964 (fun o h2 z2 => o = none ∧ z2 = g + 147 ∧ frm g 147 h h2 ∧ gmO h2 g) 26 [some (.ref g), some (.int (nI i))] [] h3 zz c s := by
    intro m
    induction m with
    | zero =>
      intro i c s zz h3 r hi hc hs hz hf g1 gn g2 g3 g4
      have : i = 24 := by omega
      subst this
      exact c0_26 (by omega) (fun _ => c0_52 ⟨rfl, by omega, hf, g1, gn, ⟨r, g2, g3⟩, g4⟩) (fun r => absurd (by omega) r)
    | succ m ih =>
      intro i c s zz h3 r hi hc hs hz hf g1 gn g2 g3 g4
      subst hz
      refine c0_26 (by omega) (fun r => absurd r (by omega)) (fun _ => ?_)
      refine b0_32g g1 rfl (by omega) (by omega) (mc := 4) (ms := 188) (by omega) (by omega) (t_posinit (d := d + 1) (le := 0) hup_eq (by omega)) ?_
      rintro o h4 z4 ⟨rfl, rfl, hf4, H4⟩
      have he : ∀ x, x < g + 27 + 5 * i ∨ g + 27 + 5 * i + 5 ≤ x → h4 x = h3 x := fun x hx => (hf4 x hx).trans (hup_ne (by omega) rfl)
      refine c0_45 ((he _ (by omega)).trans g2) (by omega) (by decide) H4.ob rfl ?_
      refine ih (i + 1) _ _ _ _ _ (by omega) (by omega) (by omega) (by omega) (fun x hx => hup_ne (by omega) ((he x (by omega)).trans (hf x hx))) (hup_ne (by omega) ((he _ (by omega)).trans g1)) (gn.of (by omega) fun x q1 q2 => hup_ne (by omega) (he x (by omega))) hup_eq (fun k hk => ?_) (fun k hk => ?_)
      · by_cases e : k = i
        · subst e
          exact upE
        · rw [upN e]
          exact g3 k (by omega)
      · by_cases e : k = i
        · subst e
          exact ⟨_, _, H4.off fun x q1 q2 => hup_ne (by omega) rfl⟩
        · obtain ⟨pc, B, hB⟩ := g4 k (by omega)
          exact ⟨pc, B, hB.off fun x q1 q2 => hup_ne (by omega) (he x (by omega))⟩
  refine loop 24 0 _ _ _ _ _ (by omega) (by omega) (by omega) (by omega) (fun x hx => ?_) hup_eq (H2.of (by omega) fun x q1 q2 => ?_) (hup_ne (by omega) hup_eq) (fun k hk => absurd hk (by omega)) (fun k hk => absurd hk (by omega))
  · exact hup_ne (by omega) (hup_ne (by omega) (hup_ne (by omega) ((hf2 x (by omega)).trans (hup_ne (by omega) rfl))))
  · exact hup_ne (by omega) (hup_ne (by omega) (hup_ne (by omega) rfl))
end INI
