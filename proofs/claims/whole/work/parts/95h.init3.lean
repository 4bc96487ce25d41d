/-! the making of the solver -/
def slP (h : HP) (S i : Nat) : Prop := h S = some (.inr (7, sFs S)) ∧ (∃ fl tm fi la lk, ptA h (S + 1) fl tm fi la lk) ∧ (∃ sg fr wr tx so tu wk en nr wc hi lo, nmA h (S + 6) (S + 1) sg fr wr tx so tu wk en nr wc hi lo) ∧ moIs h (S + 15) Vf ∧ (∃ pc B, pbIs h (S + 19) 1 pc B) ∧ (∃ r, h (S + 24) = some (.inl (5, 9, .inr (.inr (.inr (.inr r))))) ∧ ∀ k, k < i → r k = some (S + 29 + 6 * k)) ∧ (∃ r, h (S + 25) = some (.inl (4, 9, .inr (.inr (.inr (.inr r))))) ∧ ∀ k, k < i → r k = some (S + 34 + 6 * k)) ∧ (∃ ph, h (S + 26) = some (.inl (1, 50, .inr (.inl ph)))) ∧ (∃ pl, h (S + 27) = some (.inl (1, 50, .inr (.inl pl)))) ∧ (∃ lf, h (S + 28) = some (.inl (0, 16, .inl lf))) ∧ (∀ k, k < i → ∃ pc B, pbIs h (S + 29 + 6 * k) 1 pc B) ∧ ∀ k, k < i → mvO h (S + 34 + 6 * k)
section INI
variable {sc : ipSc} {d z : Nat} {h : HP}
set_option maxHeartbeats 1000000 in
theorem t_slinit {S : Nat} (hA : h S = some (.inr (7, ipDef 7))) : ipC sc (d + 2) 65 [.ref S] h (S + 1) 82 15193 (fun o h2 z2 => o = none ∧ z2 = S + 83 ∧ frm S 83 h h2 ∧ slv h2 S) := by
  rw [ipD7] at hA
  refine ipC_mk [some (.ref S), none] rfl (Nat.le_of_ble_eq_true rfl) ?_
  refine b65_0g (mc := 4) (ms := 117) (by omega) (by omega) (by omega) (by omega) (t_ptinit (d := d) (b := S + 1) hup_eq) ?_
  rintro o h2 z2 ⟨rfl, rfl, hf2, fl, tm, fi, la, lk, H2⟩
  have h2S : h2 S = some (.inr (7, [.null, .null, .null, .null, .null, .null, .null, .null, .null])) := (hf2 S (by omega)).trans (hup_ne (by omega) hA)
  refine b65_12gs (mc := 8) (ms := 589) h2S rfl (by omega) (by omega) (by omega) (by omega) (by omega) (t_nminit (d := d) (b := S + 6) (pt := S + 1) hup_eq) ?_
  rintro o h3 z3 ⟨rfl, rfl, hf3, sg, fr, wr, tx, so, tu, wk, en, nr, wc, hi, lo, H3⟩
  have he3 : ∀ x, x ≠ S → (x < S + 6 ∨ S + 15 ≤ x) → h3 x = h2 x := fun x q1 q2 => (hf3 x (by omega)).trans (hup_ne (by omega) (hup_ne q1 rfl))
  refine b65_27gs (mc := 3) (ms := 12288) ((hf3 S (by omega)).trans (hup_ne (by omega) hup_eq)) rfl (by omega) (by omega) (by omega) (by omega) (t_moinit (d := d) (b := S + 15) (V := Vf) hup_eq) ?_
  rintro o h4 z4 ⟨rfl, rfl, hf4, H4⟩
  have he4 : ∀ x, x ≠ S → (x < S + 15 ∨ S + 19 ≤ x) → h4 x = h3 x := fun x q1 q2 => (hf4 x (by omega)).trans (hup_ne (by omega) (hup_ne q1 rfl))
  refine b65_38gs (mc := 4) (ms := 188) ((hf4 S (by omega)).trans (hup_ne (by omega) hup_eq)) rfl (by omega) (by omega) (by omega) (by omega) (t_posinit (d := d) (b := S + 19) (le := 1) hup_eq (by omega)) ?_
  rintro o h5 z5 ⟨rfl, rfl, hf5, H5⟩
  have he5 : ∀ x, x ≠ S → (x < S + 19 ∨ S + 24 ≤ x) → h5 x = h4 x := fun x q1 q2 => (hf5 x (by omega)).trans (hup_ne (by omega) (hup_ne q1 rfl))
  refine b65_50s ((hf5 S (by omega)).trans (hup_ne (by omega) hup_eq)) rfl (by omega) (by omega) (by omega) (by omega) (by omega) (by omega) (by omega) (by omega) (by omega) (by omega) (by omega) (by omega) (by omega) (by omega) (by omega) ?_
  have loop : ∀ (m i c s zz : Nat) (h6 : HP), i + m = 9 → c = 28 + 6 * i → s = 13348 + 205 * i → zz = S + 29 + 6 * i → frm S 83 h h6 → slP h6 S i → ip sc (ipC sc (d + 1)) 65 82 15193 (fun o h2 z2 => o = none ∧ z2 = S + 83 ∧ frm S 83 h h2 ∧ slv h2 S) 97 [some (.ref S), some (.int (nI i))] [] h6 zz c s := by
    intro m
    induction m with
    | zero =>
      intro i c s zz h6 hi hc hs hz hf H6
      have : i = 9 := by omega
      subst this
      exact c65_97 (by omega) (fun _ => c65_136 ⟨rfl, by omega, hf, H6⟩) (fun r => absurd (by omega) r)
    | succ m ih =>
      intro i c s zz h6 hi hc hs hz hf H6
      subst hz
      obtain ⟨c1, ⟨fl, tm, fi, la, lk, c2⟩, ⟨sg, fr, wr, tx, so, tu, wk, en, nr, wc, hi2, lo, c3⟩, c4, ⟨pc5, B5, c5⟩, ⟨r6, c6, d6⟩, ⟨r7, c7, d7⟩, ⟨ph, c8⟩, ⟨pl, c9⟩, ⟨lf, c10⟩, c11, c12⟩ := H6
      have hin : vp_in (nI i) 9 := vp_in_nI (by omega) (by omega)
      have hcl : (nI i).toNatClampNeg = i := nI_clamp (by omega)
      refine c65_97 (by omega) (fun r => absurd r (by omega)) (fun _ => ?_)
      refine b65_103g (mc := 4) (ms := 188) c1 rfl (by omega) (by omega) (by omega) (by omega) (t_posinit (d := d) (le := 1) hup_eq (by omega)) ?_
      rintro o h7 z7 ⟨rfl, rfl, hf7, H7⟩
      have he7 : ∀ x, x < S + 29 + 6 * i ∨ S + 29 + 6 * i + 5 ≤ x → h7 x = h6 x := fun x hx => (hf7 x hx).trans (hup_ne (by omega) rfl)
      refine b65_116g (mc := 0) (ms := 0) ((he7 _ (by omega)).trans c6) hin H7.ob ((he7 _ (by omega)).trans c1) (by omega) rfl (by omega) (by omega) (by omega) (by omega) (t_minit (d := d)) (kV ?_)
      rw [hcl]
      refine b65_129 (hup_ne (by omega) (hup_ne (by omega) ((he7 _ (by omega)).trans c7))) hin hup_eq ?_
      rw [hcl, nI_1]
      have he : ∀ (e1 e2 e3 : hE) x, x < S + 29 + 6 * i → x ≠ S + 24 → x ≠ S + 25 → hup (hup (hup h7 (S + 24) e1) (S + 29 + 6 * i + 5) e2) (S + 25) e3 x = h6 x := fun e1 e2 e3 x q1 q2 q3 => hup_ne q3 (hup_ne (by omega) (hup_ne q2 (he7 x (by omega))))
      refine ih (i + 1) _ _ _ _ (by omega) (by omega) (by omega) (by omega) (fun x hx => ?_) ⟨(he _ _ _ _ (by omega) (by omega) (by omega)).trans c1, ⟨fl, tm, fi, la, lk, c2.off fun x a b => he _ _ _ x (by omega) (by omega) (by omega)⟩, ⟨sg, fr, wr, tx, so, tu, wk, en, nr, wc, hi2, lo, c3.off fun x a b => he _ _ _ x (by omega) (by omega) (by omega)⟩, c4.off fun x a b => he _ _ _ x (by omega) (by omega) (by omega), ⟨pc5, B5, c5.off fun x a b => he _ _ _ x (by omega) (by omega) (by omega)⟩, ⟨_, hup_ne (by omega) (hup_ne (by omega) hup_eq), fun k hk => ?_⟩, ⟨_, hup_eq, fun k hk => ?_⟩, ⟨ph, (he _ _ _ _ (by omega) (by omega) (by omega)).trans c8⟩, ⟨pl, (he _ _ _ _ (by omega) (by omega) (by omega)).trans c9⟩, ⟨lf, (he _ _ _ _ (by omega) (by omega) (by omega)).trans c10⟩, fun k hk => ?_, fun k hk => ?_⟩
      · exact hup_ne (by omega) (hup_ne (by omega) (hup_ne (by omega) ((he7 x (by omega)).trans (hf x hx))))
      · by_cases e : k = i
        · subst e
          exact upE
        · rw [upN e]
          exact d6 k (by omega)
      · by_cases e : k = i
        · subst e
          rw [upE, show S + 34 + 6 * k = S + 29 + 6 * k + 5 by omega]
        · rw [upN e]
          exact d7 k (by omega)
      · by_cases e : k = i
        · subst e
          exact ⟨_, _, H7.off fun x q1 q2 => hup_ne (by omega) (hup_ne (by omega) (hup_ne (by omega) rfl))⟩
        · obtain ⟨pc, B, hB⟩ := c11 k (by omega)
          exact ⟨pc, B, hB.off fun x q1 q2 => he _ _ _ x (by omega) (by omega) (by omega)⟩
      · by_cases e : k = i
        · subst e
          refine ⟨0, 0, 0, 0, 0, 0, ?_⟩
          rw [show S + 34 + 6 * k = S + 29 + 6 * k + 5 by omega, ← ipD2]
          exact hup_ne (by omega) hup_eq
        · exact (c12 k (by omega)).off (he _ _ _ _ (by omega) (by omega) (by omega))
  refine loop 9 0 _ _ _ _ (by omega) (by omega) (by omega) (by omega) (fun x hx => ?_) ⟨hup_eq, ⟨fl, tm, fi, la, lk, H2.off fun x a b => ?_⟩, ⟨sg, fr, wr, tx, so, tu, wk, en, nr, wc, hi, lo, H3.off fun x a b => ?_⟩, H4.off fun x a b => ?_, ⟨_, _, H5.off fun x a b => ?_⟩, ⟨fun _ => none, ?_, fun k hk => absurd hk (by omega)⟩, ⟨fun _ => none, ?_, fun k hk => absurd hk (by omega)⟩, ⟨fun _ => 0, ?_⟩, ⟨fun _ => 0, ?_⟩, ⟨fun _ => 0, ?_⟩, fun k hk => absurd hk (by omega), fun k hk => absurd hk (by omega)⟩
  · repeat (refine hup_ne (by omega) ?_)
    rw [he5 x (by omega) (by omega), he4 x (by omega) (by omega), he3 x (by omega) (by omega), hf2 x (by omega)]
    exact hup_ne (by omega) rfl
  · repeat (refine hup_ne (by omega) ?_)
    rw [he5 x (by omega) (by omega), he4 x (by omega) (by omega), he3 x (by omega) (by omega)]
  · repeat (refine hup_ne (by omega) ?_)
    rw [he5 x (by omega) (by omega), he4 x (by omega) (by omega)]
  · repeat (refine hup_ne (by omega) ?_)
    rw [he5 x (by omega) (by omega)]
  · repeat (refine hup_ne (by omega) ?_)
    rfl
  · repeat (first | exact hup_eq | refine hup_ne (by omega) ?_)
  · repeat (first | exact hup_eq | refine hup_ne (by omega) ?_)
  · repeat (first | exact hup_eq | refine hup_ne (by omega) ?_)
  · repeat (first | exact hup_eq | refine hup_ne (by omega) ?_)
  · repeat (first | exact hup_eq | refine hup_ne (by omega) ?_)
end INI
