/-! the class's Solver: what it keeps -/
theorem ptA.off {h h2 : HP} {b : Nat} {fl : Int32} {tm fi la lk : Nat → Int32} (H : ptA h b fl tm fi la lk) (he : ∀ x, b ≤ x → x < b + 5 → h2 x = h x) : ptA h2 b fl tm fi la lk := by
  obtain ⟨g0, g1, g2, g3, g4⟩ := H
  exact ⟨by rw [he _ (by omega) (by omega)]; exact g0, by rw [he _ (by omega) (by omega)]; exact g1, by rw [he _ (by omega) (by omega)]; exact g2, by rw [he _ (by omega) (by omega)]; exact g3, by rw [he _ (by omega) (by omega)]; exact g4⟩
theorem moIs.off {h h2 : HP} {b : Nat} {V : Int64 → Int64 → Nat} (H : moIs h b V) (he : ∀ x, b ≤ x → x < b + 4 → h2 x = h x) : moIs h2 b V := by
  obtain ⟨hi, lo, wo, ⟨g0, g1, g2, g3⟩, hok⟩ := H
  exact ⟨hi, lo, wo, ⟨by rw [he _ (by omega) (by omega)]; exact g0, by rw [he _ (by omega) (by omega)]; exact g1, by rw [he _ (by omega) (by omega)]; exact g2, by rw [he _ (by omega) (by omega)]; exact g3⟩, hok⟩
def mvO (h : HP) (m : Nat) : Prop := ∃ x1 x2 x3 x4 x5 x6 : Int32, h m = some (.inr (2, [.int x1, .int x2, .int x3, .int x4, .int x5, .int x6]))
def slv (h : HP) (S : Nat) : Prop := h S = some (.inr (7, sFs S)) ∧ (∃ fl tm fi la lk, ptA h (S + 1) fl tm fi la lk) ∧ (∃ sg fr wr tx so tu wk en nr wc hi lo, nmA h (S + 6) (S + 1) sg fr wr tx so tu wk en nr wc hi lo) ∧ moIs h (S + 15) Vf ∧ (∃ pc B, pbIs h (S + 19) 1 pc B) ∧ (∃ r, h (S + 24) = some (.inl (5, 9, .inr (.inr (.inr (.inr r))))) ∧ ∀ k, k < 9 → r k = some (S + 29 + 6 * k)) ∧ (∃ r, h (S + 25) = some (.inl (4, 9, .inr (.inr (.inr (.inr r))))) ∧ ∀ k, k < 9 → r k = some (S + 34 + 6 * k)) ∧ (∃ ph, h (S + 26) = some (.inl (1, 50, .inr (.inl ph)))) ∧ (∃ pl, h (S + 27) = some (.inl (1, 50, .inr (.inl pl)))) ∧ (∃ lf, h (S + 28) = some (.inl (0, 16, .inl lf))) ∧ (∀ k, k < 9 → ∃ pc B, pbIs h (S + 29 + 6 * k) 1 pc B) ∧ ∀ k, k < 9 → mvO h (S + 34 + 6 * k)
section SV
variable {S : Nat} {h h2 : HP}
theorem slv.pt (H : slv h S) (hf : frm (S + 1) 5 h h2) (k : ∃ fl tm fi la lk, ptA h2 (S + 1) fl tm fi la lk) : slv h2 S := by
  obtain ⟨c1, ⟨fl, tm, fi, la, lk, c2⟩, ⟨sg, fr, wr, tx, so, tu, wk, en, nr, wc, hi, lo, c3⟩, c4, ⟨pc5, B5, c5⟩, ⟨r6, c6, d6⟩, ⟨r7, c7, d7⟩, ⟨ph, c8⟩, ⟨pl, c9⟩, ⟨lf, c10⟩, c11, c12⟩ := H
  have he : ∀ x, x < S + 1 ∨ S + 6 ≤ x → h2 x = h x := fun x hx => hf x (by omega)
  exact ⟨(he _ (by omega)).trans c1, k, ⟨sg, fr, wr, tx, so, tu, wk, en, nr, wc, hi, lo, c3.off fun x a b => he x (by omega)⟩, c4.off fun x a b => he x (by omega), ⟨pc5, B5, c5.off fun x a b => he x (by omega)⟩, ⟨r6, (he _ (by omega)).trans c6, d6⟩, ⟨r7, (he _ (by omega)).trans c7, d7⟩, ⟨ph, (he _ (by omega)).trans c8⟩, ⟨pl, (he _ (by omega)).trans c9⟩, ⟨lf, (he _ (by omega)).trans c10⟩, fun k hk => ⟨_, _, (c11 k hk).choose_spec.choose_spec.off fun x a b => he x (by omega)⟩, (fun k hk => by
    obtain ⟨x1, x2, x3, x4, x5, x6, e⟩ := c12 k hk
    exact ⟨x1, x2, x3, x4, x5, x6, (he _ (by omega)).trans e⟩)⟩
theorem slv.nm (H : slv h S) (hf : frm (S + 6) 9 h h2) (k : ∃ sg fr wr tx so tu wk en nr wc hi lo, nmA h2 (S + 6) (S + 1) sg fr wr tx so tu wk en nr wc hi lo) : slv h2 S := by
  obtain ⟨c1, ⟨fl, tm, fi, la, lk, c2⟩, ⟨sg, fr, wr, tx, so, tu, wk, en, nr, wc, hi, lo, c3⟩, c4, ⟨pc5, B5, c5⟩, ⟨r6, c6, d6⟩, ⟨r7, c7, d7⟩, ⟨ph, c8⟩, ⟨pl, c9⟩, ⟨lf, c10⟩, c11, c12⟩ := H
  have he : ∀ x, x < S + 6 ∨ S + 15 ≤ x → h2 x = h x := fun x hx => hf x (by omega)
  exact ⟨(he _ (by omega)).trans c1, ⟨fl, tm, fi, la, lk, c2.off fun x a b => he x (by omega)⟩, k, c4.off fun x a b => he x (by omega), ⟨pc5, B5, c5.off fun x a b => he x (by omega)⟩, ⟨r6, (he _ (by omega)).trans c6, d6⟩, ⟨r7, (he _ (by omega)).trans c7, d7⟩, ⟨ph, (he _ (by omega)).trans c8⟩, ⟨pl, (he _ (by omega)).trans c9⟩, ⟨lf, (he _ (by omega)).trans c10⟩, fun k hk => ⟨_, _, (c11 k hk).choose_spec.choose_spec.off fun x a b => he x (by omega)⟩, (fun k hk => by
    obtain ⟨x1, x2, x3, x4, x5, x6, e⟩ := c12 k hk
    exact ⟨x1, x2, x3, x4, x5, x6, (he _ (by omega)).trans e⟩)⟩
theorem slv.mo (H : slv h S) (hf : frm (S + 15) 4 h h2) (k : moIs h2 (S + 15) Vf) : slv h2 S := by
  obtain ⟨c1, ⟨fl, tm, fi, la, lk, c2⟩, ⟨sg, fr, wr, tx, so, tu, wk, en, nr, wc, hi, lo, c3⟩, c4, ⟨pc5, B5, c5⟩, ⟨r6, c6, d6⟩, ⟨r7, c7, d7⟩, ⟨ph, c8⟩, ⟨pl, c9⟩, ⟨lf, c10⟩, c11, c12⟩ := H
  have he : ∀ x, x < S + 15 ∨ S + 19 ≤ x → h2 x = h x := fun x hx => hf x (by omega)
  exact ⟨(he _ (by omega)).trans c1, ⟨fl, tm, fi, la, lk, c2.off fun x a b => he x (by omega)⟩, ⟨sg, fr, wr, tx, so, tu, wk, en, nr, wc, hi, lo, c3.off fun x a b => he x (by omega)⟩, k, ⟨pc5, B5, c5.off fun x a b => he x (by omega)⟩, ⟨r6, (he _ (by omega)).trans c6, d6⟩, ⟨r7, (he _ (by omega)).trans c7, d7⟩, ⟨ph, (he _ (by omega)).trans c8⟩, ⟨pl, (he _ (by omega)).trans c9⟩, ⟨lf, (he _ (by omega)).trans c10⟩, fun k hk => ⟨_, _, (c11 k hk).choose_spec.choose_spec.off fun x a b => he x (by omega)⟩, (fun k hk => by
    obtain ⟨x1, x2, x3, x4, x5, x6, e⟩ := c12 k hk
    exact ⟨x1, x2, x3, x4, x5, x6, (he _ (by omega)).trans e⟩)⟩
theorem slv.dr (H : slv h S) (hf : frm (S + 19) 5 h h2) (k : ∃ pc B, pbIs h2 (S + 19) 1 pc B) : slv h2 S := by
  obtain ⟨c1, ⟨fl, tm, fi, la, lk, c2⟩, ⟨sg, fr, wr, tx, so, tu, wk, en, nr, wc, hi, lo, c3⟩, c4, ⟨pc5, B5, c5⟩, ⟨r6, c6, d6⟩, ⟨r7, c7, d7⟩, ⟨ph, c8⟩, ⟨pl, c9⟩, ⟨lf, c10⟩, c11, c12⟩ := H
  have he : ∀ x, x < S + 19 ∨ S + 24 ≤ x → h2 x = h x := fun x hx => hf x (by omega)
  exact ⟨(he _ (by omega)).trans c1, ⟨fl, tm, fi, la, lk, c2.off fun x a b => he x (by omega)⟩, ⟨sg, fr, wr, tx, so, tu, wk, en, nr, wc, hi, lo, c3.off fun x a b => he x (by omega)⟩, c4.off fun x a b => he x (by omega), k, ⟨r6, (he _ (by omega)).trans c6, d6⟩, ⟨r7, (he _ (by omega)).trans c7, d7⟩, ⟨ph, (he _ (by omega)).trans c8⟩, ⟨pl, (he _ (by omega)).trans c9⟩, ⟨lf, (he _ (by omega)).trans c10⟩, fun k hk => ⟨_, _, (c11 k hk).choose_spec.choose_spec.off fun x a b => he x (by omega)⟩, (fun k hk => by
    obtain ⟨x1, x2, x3, x4, x5, x6, e⟩ := c12 k hk
    exact ⟨x1, x2, x3, x4, x5, x6, (he _ (by omega)).trans e⟩)⟩
theorem slv.ky (H : slv h S) (hf : ∀ x, x < S + 26 ∨ S + 28 ≤ x → h2 x = h x) (k1 : ∃ ph, h2 (S + 26) = some (.inl (1, 50, .inr (.inl ph)))) (k2 : ∃ pl, h2 (S + 27) = some (.inl (1, 50, .inr (.inl pl)))) : slv h2 S := by
  obtain ⟨c1, ⟨fl, tm, fi, la, lk, c2⟩, ⟨sg, fr, wr, tx, so, tu, wk, en, nr, wc, hi, lo, c3⟩, c4, ⟨pc5, B5, c5⟩, ⟨r6, c6, d6⟩, ⟨r7, c7, d7⟩, ⟨ph, c8⟩, ⟨pl, c9⟩, ⟨lf, c10⟩, c11, c12⟩ := H
  have he : ∀ x, x < S + 26 ∨ S + 28 ≤ x → h2 x = h x := hf
  exact ⟨(he _ (by omega)).trans c1, ⟨fl, tm, fi, la, lk, c2.off fun x a b => he x (by omega)⟩, ⟨sg, fr, wr, tx, so, tu, wk, en, nr, wc, hi, lo, c3.off fun x a b => he x (by omega)⟩, c4.off fun x a b => he x (by omega), ⟨pc5, B5, c5.off fun x a b => he x (by omega)⟩, ⟨r6, (he _ (by omega)).trans c6, d6⟩, ⟨r7, (he _ (by omega)).trans c7, d7⟩, k1, k2, ⟨lf, (he _ (by omega)).trans c10⟩, fun k hk => ⟨_, _, (c11 k hk).choose_spec.choose_spec.off fun x a b => he x (by omega)⟩, (fun k hk => by
    obtain ⟨x1, x2, x3, x4, x5, x6, e⟩ := c12 k hk
    exact ⟨x1, x2, x3, x4, x5, x6, (he _ (by omega)).trans e⟩)⟩
theorem slv.lv (H : slv h S) {j : Nat} (hj : j < 9) (hf : dfr (S + 29 + 6 * j) S h h2) (k1 : ∃ lf, h2 (S + 28) = some (.inl (0, 16, .inl lf))) (k2 : ∃ pc B, pbIs h2 (S + 29 + 6 * j) 1 pc B) : slv h2 S := by
  obtain ⟨c1, ⟨fl, tm, fi, la, lk, c2⟩, ⟨sg, fr, wr, tx, so, tu, wk, en, nr, wc, hi, lo, c3⟩, c4, ⟨pc5, B5, c5⟩, ⟨r6, c6, d6⟩, ⟨r7, c7, d7⟩, ⟨ph, c8⟩, ⟨pl, c9⟩, ⟨lf, c10⟩, c11, c12⟩ := H
  have he : ∀ x, (x < S + 29 + 6 * j ∨ S + 29 + 6 * j + 5 ≤ x) ∧ x ≠ S + 28 → h2 x = h x := fun x hx => hf x hx.1 hx.2
  exact ⟨(he _ (by omega)).trans c1, ⟨fl, tm, fi, la, lk, c2.off fun x a b => he x (by omega)⟩, ⟨sg, fr, wr, tx, so, tu, wk, en, nr, wc, hi, lo, c3.off fun x a b => he x (by omega)⟩, c4.off fun x a b => he x (by omega), ⟨pc5, B5, c5.off fun x a b => he x (by omega)⟩, ⟨r6, (he _ (by omega)).trans c6, d6⟩, ⟨r7, (he _ (by omega)).trans c7, d7⟩, ⟨ph, (he _ (by omega)).trans c8⟩, ⟨pl, (he _ (by omega)).trans c9⟩, k1, (fun k hk => by
    by_cases e : k = j
    · rw [e]; exact k2
    · exact ⟨_, _, (c11 k hk).choose_spec.choose_spec.off fun x a b => he x (by omega)⟩), (fun k hk => by
    obtain ⟨x1, x2, x3, x4, x5, x6, e⟩ := c12 k hk
    exact ⟨x1, x2, x3, x4, x5, x6, (he _ (by omega)).trans e⟩)⟩
theorem slv.tr (H : slv h S) {j : Nat} (hj : j < 9) (hf : ∀ x, x ≠ S + 34 + 6 * j → h2 x = h x) (k1 : mvO h2 (S + 34 + 6 * j)) : slv h2 S := by
  obtain ⟨c1, ⟨fl, tm, fi, la, lk, c2⟩, ⟨sg, fr, wr, tx, so, tu, wk, en, nr, wc, hi, lo, c3⟩, c4, ⟨pc5, B5, c5⟩, ⟨r6, c6, d6⟩, ⟨r7, c7, d7⟩, ⟨ph, c8⟩, ⟨pl, c9⟩, ⟨lf, c10⟩, c11, c12⟩ := H
  have he : ∀ x, x ≠ S + 34 + 6 * j → h2 x = h x := hf
  exact ⟨(he _ (by omega)).trans c1, ⟨fl, tm, fi, la, lk, c2.off fun x a b => he x (by omega)⟩, ⟨sg, fr, wr, tx, so, tu, wk, en, nr, wc, hi, lo, c3.off fun x a b => he x (by omega)⟩, c4.off fun x a b => he x (by omega), ⟨pc5, B5, c5.off fun x a b => he x (by omega)⟩, ⟨r6, (he _ (by omega)).trans c6, d6⟩, ⟨r7, (he _ (by omega)).trans c7, d7⟩, ⟨ph, (he _ (by omega)).trans c8⟩, ⟨pl, (he _ (by omega)).trans c9⟩, ⟨lf, (he _ (by omega)).trans c10⟩, fun k hk => ⟨_, _, (c11 k hk).choose_spec.choose_spec.off fun x a b => he x (by omega)⟩, (fun k hk => by
    by_cases e : k = j
    · rw [e]; exact k1
    · obtain ⟨x1, x2, x3, x4, x5, x6, e⟩ := c12 k hk
      exact ⟨x1, x2, x3, x4, x5, x6, (he _ (by omega)).trans e⟩)⟩
/-- what a look into depth leaves as it was -/
def sfr (S dep n : Nat) (h h2 : HP) : Prop := (∀ x, x < S ∨ S + 83 ≤ x → h2 x = h x) ∧ (∀ x, S + 29 ≤ x → x < S + 29 + 6 * dep → h2 x = h x) ∧ (∀ ph, h (S + 26) = some (.inl (1, 50, .inr (.inl ph))) → ∃ ph2, h2 (S + 26) = some (.inl (1, 50, .inr (.inl ph2))) ∧ ∀ k, k < n → ph2 k = ph k) ∧ ∀ pl, h (S + 27) = some (.inl (1, 50, .inr (.inl pl))) → ∃ pl2, h2 (S + 27) = some (.inl (1, 50, .inr (.inl pl2))) ∧ ∀ k, k < n → pl2 k = pl k
theorem sfr.rf {dep n : Nat} : sfr S dep n h h := ⟨fun _ _ => rfl, fun _ _ _ => rfl, fun ph e => ⟨ph, e, fun _ _ => rfl⟩, fun pl e => ⟨pl, e, fun _ _ => rfl⟩⟩
theorem sfr.tr {dep n : Nat} {h3 : HP} (a : sfr S dep n h h2) (b : sfr S dep n h2 h3) : sfr S dep n h h3 := by
  obtain ⟨a1, a2, a3, a4⟩ := a
  obtain ⟨b1, b2, b3, b4⟩ := b
  refine ⟨fun x hx => (b1 x hx).trans (a1 x hx), fun x k1 k2 => (b2 x k1 k2).trans (a2 x k1 k2), fun ph e => ?_, fun pl e => ?_⟩
  · obtain ⟨p2, e2, f2⟩ := a3 ph e
    obtain ⟨p3, e3, f3⟩ := b3 p2 e2
    exact ⟨p3, e3, fun k hk => (f3 k hk).trans (f2 k hk)⟩
  · obtain ⟨p2, e2, f2⟩ := a4 pl e
    obtain ⟨p3, e3, f3⟩ := b4 p2 e2
    exact ⟨p3, e3, fun k hk => (f3 k hk).trans (f2 k hk)⟩
theorem sfr.le {dep n dep2 n2 : Nat} (a : sfr S dep n h h2) (h1 : dep2 ≤ dep) (h3 : n2 ≤ n) : sfr S dep2 n2 h h2 := by
  obtain ⟨a1, a2, a3, a4⟩ := a
  refine ⟨a1, fun x k1 k2 => a2 x k1 (by omega), fun ph e => ?_, fun pl e => ?_⟩
  · obtain ⟨p2, e2, f2⟩ := a3 ph e
    exact ⟨p2, e2, fun k hk => f2 k (by omega)⟩
  · obtain ⟨p2, e2, f2⟩ := a4 pl e
    exact ⟨p2, e2, fun k hk => f2 k (by omega)⟩
/-- a change that touches no level below and no key -/
theorem sfr.of {dep n : Nat} (hd : dep ≤ 9) (hf : ∀ x, (x < S ∨ S + 83 ≤ x) ∨ x = S + 26 ∨ x = S + 27 ∨ (S + 29 ≤ x ∧ x < S + 29 + 6 * dep) → h2 x = h x) : sfr S dep n h h2 := ⟨fun x hx => hf x (Or.inl hx), fun x k1 k2 => hf x (by omega), fun ph e => ⟨ph, by rw [hf _ (by omega)]; exact e, fun _ _ => rfl⟩, fun pl e => ⟨pl, by rw [hf _ (by omega)]; exact e, fun _ _ => rfl⟩⟩
end SV
