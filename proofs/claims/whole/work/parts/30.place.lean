/-! the class's Position: what its cells hold, reads -/
def pFs (b le cc wc fc sc pc lc : Nat) : List Value := [.int (nI le), .ref (b + 1), .ref (b + 2), .ref (b + 3), .ref (b + 4), .int (nI cc), .int (nI wc), .int (nI fc), .int (nI sc), .int (nI pc), .int (nI lc)]
def psA (h : HP) (b le cc wc fc sc pc lc : Nat) (sa wf ff lf : Nat → Int32) : Prop := h b = some (.inr (6, pFs b le cc wc fc sc pc lc)) ∧ h (b + 1) = some (.inl (0, 100, .inl sa)) ∧ h (b + 2) = some (.inl (0, 32, .inl wf)) ∧ h (b + 3) = some (.inl (0, 25, .inl ff)) ∧ h (b + 4) = some (.inl (0, 31, .inl lf))
/-- a position under way: lives, closed fields, closed walls of the next field, corners of the next wall -/
abbrev PB : Type := List Nat × List (List (List Nat)) × List (List Nat) × List Nat
def bW (B : PB) : List (List Nat) := B.2.1.flatten ++ B.2.2.1
def bC (B : PB) : List Nat := (bW B).flatten ++ B.2.2.2
def pbOK (B : PB) : Prop := (bC B).length ≤ 100 ∧ (bW B).length ≤ 31 ∧ B.2.1.length ≤ 24 ∧ B.1.length ≤ 31
def pbR (B : PB) (sa wf ff lf : Nat → Int32) : Prop := rowL lf 0 B.1 ∧ rowL sa 0 (bC B) ∧ (∀ k, k ≤ (bW B).length → wf k = nI (lSt (bW B) k)) ∧ (∀ k, k ≤ B.2.1.length → ff k = nI (lSt B.2.1 k)) ∧ pbOK B
def pbIs (h : HP) (b le pc : Nat) (B : PB) : Prop := le ≤ 1 ∧ ∃ sa wf ff lf, psA h b le (bC B).length (bW B).length B.2.1.length B.1.length pc B.1.sum sa wf ff lf ∧ pbR B sa wf ff lf
def plIs (h : HP) (b le pc : Nat) (P : PosT) : Prop := pbIs h b le pc (P.1, P.2, [], [])
def frm (b n : Nat) (h h2 : HP) : Prop := ∀ x, x < b ∨ b + n ≤ x → h2 x = h x
theorem frm.rf {b n : Nat} {h : HP} : frm b n h h := fun _ _ => rfl
theorem frm.tr {b n : Nat} {h h2 h3 : HP} (e1 : frm b n h h2) (e2 : frm b n h2 h3) : frm b n h h3 := fun x hx => (e2 x hx).trans (e1 x hx)
theorem frm.up {b n r : Nat} {h h2 : HP} {e : hE} (e1 : frm b n h h2) (hr : b ≤ r ∧ r < b + n) : frm b n h (hup h2 r e) := fun x hx => (hup_ne (by omega) (e1 x hx))
theorem psA.off {h h2 : HP} {b le cc wc fc sc pc lc : Nat} {sa wf ff lf : Nat → Int32} (H : psA h b le cc wc fc sc pc lc sa wf ff lf) (he : ∀ x, b ≤ x → x < b + 5 → h2 x = h x) : psA h2 b le cc wc fc sc pc lc sa wf ff lf := by
  obtain ⟨h1, h2', h3, h4, h5⟩ := H
  refine ⟨?_, ?_, ?_, ?_, ?_⟩
  · rw [he _ (by omega) (by omega)]; exact h1
  · rw [he _ (by omega) (by omega)]; exact h2'
  · rw [he _ (by omega) (by omega)]; exact h3
  · rw [he _ (by omega) (by omega)]; exact h4
  · rw [he _ (by omega) (by omega)]; exact h5
theorem pbIs.off {h h2 : HP} {b le pc : Nat} {B : PB} (H : pbIs h b le pc B) (he : ∀ x, b ≤ x → x < b + 5 → h2 x = h x) : pbIs h2 b le pc B := by
  obtain ⟨h0, sa, wf, ff, lf, h1, h2'⟩ := H
  exact ⟨h0, sa, wf, ff, lf, h1.off he, h2'⟩
theorem pbIs.frm {h h2 : HP} {b le pc q n : Nat} {B : PB} (H : pbIs h b le pc B) (he : frm q n h h2) (hd : b + 5 ≤ q ∨ q + n ≤ b) : pbIs h2 b le pc B := H.off fun x h1 h2 => he x (by omega)
theorem rowL_at {al : Nat → Int32} {l : List Nat} {i v : Nat} (h : rowL al 0 l) (hi : l[i]? = some v) : al i = nI v := by
  have := h i v hi
  rw [Nat.zero_add] at this
  exact this
theorem bW_c {lv : List Nat} {F : List (List (List Nat))} : bW (lv, F, [], []) = F.flatten := by simp [bW]
theorem bC_c {lv : List Nat} {F : List (List (List Nat))} : bC (lv, F, [], []) = F.flatten.flatten := by simp [bC, bW]
section POS
variable {sc : ipSc} {d z b le pc : Nat} {h : HP} {P : PosT}
theorem t_wallsIn (H : plIs h b le pc P) {f : Nat} (hf : f < P.2.length) : ipC sc (d + 1) 39 [.ref b, .int (nI f)] h z 0 0 (qI (nI (fl P f)) h z) := by
  obtain ⟨-, sa, wf, ff, lf, ⟨h1, h2, h3, h4, h5⟩, r1, r2, r3, r4, o1, o2, o3, o4⟩ := H
  simp only at o3 r4
  refine ipC_mk [some (.ref b), some (.int (nI f))] rfl (Nat.le_of_ble_eq_true rfl) ?_
  have hs := lSt_s (gD (d := []) hf)
  refine c39_0 h1 rfl h4 (by omega) (by decide) (r4 (f + 1) (by omega)) (by omega) (r4 f (by omega)) (by omega) ⟨?_, rfl, rfl⟩
  rw [hs]
  unfold fl
  rw [Nat.add_sub_cancel_left]
theorem t_size (H : plIs h b le pc P) {w : Nat} {x : List Nat} (hw : (pW P)[w]? = some x) : ipC sc (d + 1) 41 [.ref b, .int (nI w)] h z 0 0 (qI (nI x.length) h z) := by
  obtain ⟨-, sa, wf, ff, lf, ⟨h1, h2, h3, h4, h5⟩, r1, r2, r3, r4, o1, o2, o3, o4⟩ := H
  rw [bW_c] at o2 r3
  have hw : P.2.flatten[w]? = some x := hw
  have hl := lt_some hw
  refine ipC_mk [some (.ref b), some (.int (nI w))] rfl (Nat.le_of_ble_eq_true rfl) ?_
  have hs := lSt_s hw
  refine c41_0 h1 rfl h3 (by omega) (by decide) (r3 (w + 1) (by omega)) (by omega) (r3 w (by omega)) (by omega) ⟨?_, rfl, rfl⟩
  rw [hs, Nat.add_sub_cancel_left]
theorem t_cornersOn (H : plIs h b le pc P) {f u : Nat} (hf : f < P.2.length) (hu : u < fl P f) : ipC sc (d + 2) 40 [.ref b, .int (nI f), .int (nI u)] h z 0 0 (qI (nI (wl P f u)) h z) := by
  have H0 := H
  obtain ⟨-, sa, wf, ff, lf, ⟨h1, h2, h3, h4, h5⟩, r1, r2, r3, r4, o1, o2, o3, o4⟩ := H
  simp only at o3 r4
  refine ipC_mk [some (.ref b), some (.int (nI f)), some (.int (nI u))] rfl (Nat.le_of_ble_eq_true rfl) ?_
  refine c40_0 h1 rfl h4 (by omega) (by decide) (r4 f (by omega)) (Nat.zero_le _) (Nat.zero_le _) (t_size H0 (lSt_at (gD hf) (gD hu))) (kI (c40_12 ⟨rfl, rfl, rfl⟩))
theorem t_spot (H : plIs h b le pc P) {f u i a : Nat} {F : List (List Nat)} {x : List Nat} (hf : P.2[f]? = some F) (hu : F[u]? = some x) (hi : x[i]? = some a) : ipC sc (d + 1) 42 [.ref b, .int (nI f), .int (nI u), .int (nI i)] h z 0 0 (qI (nI a) h z) := by
  obtain ⟨-, sa, wf, ff, lf, ⟨h1, h2, h3, h4, h5⟩, r1, r2, r3, r4, o1, o2, o3, o4⟩ := H
  rw [bW_c] at o2 r3
  rw [bC_c] at o1 r2
  simp only at o3 r4
  have hlf := lt_some hf
  have hw : P.2.flatten[lSt P.2 f + u]? = some x := lSt_at hf hu
  have hlw := lt_some hw
  have hc : P.2.flatten.flatten[lSt P.2.flatten (lSt P.2 f + u) + i]? = some a := lSt_at hw hi
  have hlc := lt_some hc
  refine ipC_mk [some (.ref b), some (.int (nI f)), some (.int (nI u)), some (.int (nI i))] rfl (Nat.le_of_ble_eq_true rfl) ?_
  exact c42_0 h1 rfl rfl rfl h4 (by omega) (by decide) (r4 f (by omega)) h3 (by omega) (by decide) (r3 _ (by omega)) h2 (by omega) (by decide) (rowL_at r2 hc) ⟨rfl, rfl, rfl⟩
theorem t_canMeet (H : plIs h b le pc P) {a c la lc : Nat} (ha : P.1[a]? = some la) (hc : P.1[c]? = some lc) (hla : la ≤ 3) (hlc : lc ≤ 3) : ipC sc (d + 1) 43 [.ref b, .int (nI a), .int (nI c)] h z 0 0 (qI (nI (cM P.1 a c).toNat) h z) := by
  obtain ⟨-, sa, wf, ff, lf, ⟨h1, h2, h3, h4, h5⟩, r1, r2, r3, r4, o1, o2, o3, o4⟩ := H
  simp only at o4 r1
  have hl1 := lt_some ha
  have hl2 := lt_some hc
  refine ipC_mk [some (.ref b), some (.int (nI a)), some (.int (nI c))] rfl (Nat.le_of_ble_eq_true rfl) ?_
  refine c43_0 (by omega) (by omega) (fun hne => ?_) (fun he => ?_)
  · have e1 : cM P.1 a c = (decide (0 < la) && decide (0 < lc)) := by
      unfold cM
      rw [if_neg hne, getD_of ha, getD_of hc]
    rw [e1]
    refine c43_23 h1 rfl h5 (by omega) (by decide) (rowL_at r1 ha) (by omega) (fun r => c43_47 (c43_48 rfl ⟨?_, rfl, rfl⟩)) (fun r => ?_)
    · rw [show la = 0 by omega]; rfl
    · refine c43_33 h1 rfl h5 (by omega) (by decide) (rowL_at r1 hc) (by omega) (fun r2 => c43_47 (c43_48 rfl ⟨?_, rfl, rfl⟩)) (fun r2 => c43_43 (c43_48 rfl ⟨?_, rfl, rfl⟩))
      · rw [show lc = 0 by omega, Bool.and_comm]; rfl
      · rw [decide_eq_true (show 0 < la by omega), decide_eq_true (show 0 < lc by omega)]; rfl
  · have he := Classical.not_not.mp he
    subst he
    have e1 : cM P.1 a a = (decide (1 < la) && decide (0 < la)) := by
      unfold cM
      rw [if_pos rfl, getD_of ha]
    rw [e1]
    refine c43_5 h1 rfl h5 (by omega) (by decide) (rowL_at r1 ha) (by omega) (fun r => c43_19 (c43_48 rfl ⟨?_, rfl, rfl⟩)) (fun r => c43_15 (c43_48 rfl ⟨?_, rfl, rfl⟩))
    · rw [decide_eq_false (show ¬ 1 < la by omega)]; rfl
    · rw [decide_eq_true (show 1 < la by omega), decide_eq_true (show 0 < la by omega)]; rfl
end POS
