/-! the class's Notes and Game -/
def ntP (h : HP) (A n t i : Nat) (mv : Nat → MvT) : Prop := h A = some (.inr (4, [.ref (A + 1), .int (nI n), .int (nI t)])) ∧ (∃ r, h (A + 1) = some (.inl (4, 23, .inr (.inr (.inr (.inr r))))) ∧ ∀ k, k < 23 → r k = some (A + 2 + k)) ∧ (∀ k, k < 23 → mvO h (A + 2 + k)) ∧ ∀ k, k < i → h (A + 2 + k) = some (.inr (2, mvV (mv k)))
def ntIs (h : HP) (A n t : Nat) (mv : Nat → MvT) : Prop := ntP h A n t t mv
theorem mvO.off {h h2 : HP} {m : Nat} (H : mvO h m) (he : h2 m = h m) : mvO h2 m := by
  obtain ⟨x1, x2, x3, x4, x5, x6, e⟩ := H
  exact ⟨x1, x2, x3, x4, x5, x6, he.trans e⟩
theorem ntP.of {h h2 : HP} {A n t i : Nat} {mv : Nat → MvT} (H : ntP h A n t i mv) (hi : i ≤ 23) (he : ∀ x, A ≤ x → x < A + 25 → h2 x = h x) : ntP h2 A n t i mv := by
  obtain ⟨h1, ⟨r, h3, h4⟩, h5, h6⟩ := H
  exact ⟨(he _ (by omega) (by omega)).trans h1, ⟨r, (he _ (by omega) (by omega)).trans h3, h4⟩, fun k hk => (h5 k hk).off (he _ (by omega) (by omega)), fun k hk => (he _ (by omega) (by omega)).trans (h6 k hk)⟩
theorem ntP.cg {h : HP} {A n t i : Nat} {mv mv2 : Nat → MvT} (H : ntP h A n t i mv) (he : ∀ k, k < i → mv2 k = mv k) : ntP h A n t i mv2 := ⟨H.1, H.2.1, H.2.2.1, fun k hk => by rw [he k hk]; exact H.2.2.2 k hk⟩
/-- the next move is written -/
theorem ntP.put {h : HP} {A n t i : Nat} {mv : Nat → MvT} {m : MvT} (H : ntP h A n t i mv) : ntP (hup h (A + 2 + i) (.inr (2, mvV m))) A n t (i + 1) (pu mv i m) := by
  obtain ⟨h1, ⟨r, h3, h4⟩, h5, h6⟩ := H
  refine ⟨hup_ne (by omega) h1, ⟨r, hup_ne (by omega) h3, h4⟩, fun k hk => ?_, fun k hk => ?_⟩
  · by_cases e : k = i
    · subst e
      exact ⟨_, _, _, _, _, _, hup_eq⟩
    · exact (h5 k hk).off (hup_ne (by omega) rfl)
  · by_cases e : k = i
    · subst e
      rw [pu_eq]
      exact hup_eq
    · rw [pu_ne e]
      exact hup_ne (by omega) (h6 k (by omega))
theorem pu_self {mv : Nat → MvT} {i : Nat} : pu mv i (mv i) = mv := by
  funext k
  unfold pu
  split
  · rename_i e; rw [e]
  · rfl
def gmIs (h : HP) (g n t : Nat) (mv : Nat → MvT) : Prop := h g = some (.inr (0, [.ref (g + 1), .ref (g + 26)])) ∧ ntIs h (g + 1) n t mv ∧ (∃ r, h (g + 26) = some (.inl (5, 24, .inr (.inr (.inr (.inr r))))) ∧ ∀ k, k < 24 → r k = some (g + 27 + 5 * k)) ∧ (∀ k, k < 24 → ∃ pc B, pbIs h (g + 27 + 5 * k) 0 pc B) ∧ ∀ k, k ≤ t → plIs h (g + 27 + 5 * k) 0 (gC n mv k) (gP n mv k)
theorem gmIs.of {h h2 : HP} {g n t : Nat} {mv : Nat → MvT} (H : gmIs h g n t mv) (ht : t ≤ 23) (he : ∀ x, g ≤ x → x < g + 147 → h2 x = h x) : gmIs h2 g n t mv := by
  obtain ⟨h1, h2, ⟨r, h3, h4⟩, h5, h6⟩ := H
  exact ⟨(he _ (by omega) (by omega)).trans h1, h2.of ht fun x q1 q2 => he x (by omega) (by omega), ⟨r, (he _ (by omega) (by omega)).trans h3, h4⟩, fun k hk => ⟨_, _, (h5 k hk).choose_spec.choose_spec.off fun x q1 q2 => he x (by omega) (by omega)⟩, fun k hk => (h6 k hk).off fun x q1 q2 => he x (by omega) (by omega)⟩
theorem gmIs.cg {h : HP} {g n t : Nat} {mv mv2 : Nat → MvT} (H : gmIs h g n t mv) (he : ∀ k, k < t → mv2 k = mv k) : gmIs h g n t mv2 := by
  obtain ⟨h1, h2, h3, h5, h6⟩ := H
  refine ⟨h1, h2.cg he, h3, h5, fun k hk => ?_⟩
  rw [gP_congr (mv := mv) fun l hl => he l (by omega), gC_congr (mv := mv) fun l hl => he l (by omega)]
  exact h6 k hk
section CLS
variable {sc : ipSc} {d z g b n t : Nat} {h : HP} {mv : Nat → MvT}
theorem t_ntake {A B n0 t0 i0 : Nat} {mv0 : Nat → MvT} (H : ntP h A n0 t0 i0 mv0) (HB : ntIs h B n t mv) (hd : A + 25 ≤ B ∨ B + 25 ≤ A) (ht : t ≤ 23) : ipC sc (d + 2) 28 [.ref A, .ref B] h z 0 0 (fun o h2 z2 => o = none ∧ z2 = z ∧ frm A 25 h h2 ∧ ntIs h2 A n t mv) := by
  refine ipC_mk [some (.ref A), some (.ref B), none] rfl (Nat.le_of_ble_eq_true rfl) ?_
  obtain ⟨h1, ⟨r, h3, h4⟩, h5, h6⟩ := H
  refine c28_0 HB.1 rfl h1 rfl (by omega) rfl ?_
  have loop : ∀ (m i : Nat) (h3 : HP), i + m = t → frm A 25 h h3 → ntP h3 A n t i mv → ip sc (ipC sc (d + 1)) 28 0 0 (fun o h2 z2 => o = none ∧ z2 = z ∧ frm A 25 h h2 ∧ ntIs h2 A n t mv) 18 [some (.ref A), some (.ref B), some (.int (nI i))] [] h3 z 0 0 := by
    intro m
    induction m with
    | zero =>
      intro i h3 hi hf H3
      have : i = t := by omega
      subst this
      exact c28_18 H3.1 rfl (by omega) (by omega) (fun _ => c28_47 ⟨rfl, rfl, hf, H3⟩) (fun r => absurd (Nat.le_refl _) r)
    | succ m ih =>
      intro i h3 hi hf H3
      have HB3 : ntIs h3 B n t mv := HB.of ht fun x q1 q2 => hf x (by omega)
      obtain ⟨r, g3, g4⟩ := H3.2.1
      obtain ⟨r2, k3, k4⟩ := HB3.2.1
      obtain ⟨x1, x2, x3, x4, x5, x6, e⟩ := H3.2.2.1 i (by omega)
      refine c28_18 H3.1 rfl (by omega) (by omega) (fun r => absurd r (by omega)) (fun _ => ?_)
      refine c28_26 H3.1 rfl g3 (by omega) (by decide) (g4 i (by omega)) HB3.1 rfl k3 (by omega) (by decide) (k4 i (by omega)) e (Nat.zero_le _) (Nat.zero_le _) (t_mtake (HB3.2.2.2 i (by omega)) e (by omega)) ?_
      rintro o h5 z5 ⟨rfl, rfl, rfl⟩
      refine c28_41 (ih (i + 1) _ (by omega) (hf.up (by omega)) ?_)
      have := H3.put (m := mv i)
      rw [pu_self] at this
      exact this
  exact loop t 0 _ (by omega) (frm.rf.up (by omega)) ⟨hup_eq, ⟨r, hup_ne (by omega) h3, h4⟩, fun k hk => (h5 k hk).off (hup_ne (by omega) rfl), fun k hk => absurd hk (by omega)⟩
theorem t_gnow (H : gmIs h g n t mv) (ht : t ≤ 23) : ipC sc (d + 1) 1 [.ref g] h z 0 0 (qR (g + 27 + 5 * t) h z) := by
  obtain ⟨h1, h2, ⟨r, h3, h4⟩, h5, h6⟩ := H
  refine ipC_mk [some (.ref g)] rfl (Nat.le_of_ble_eq_true rfl) ?_
  exact c1_0 h1 rfl rfl h2.1 rfl h3 (by omega) (by decide) (h4 t (by omega)) ⟨rfl, rfl, rfl⟩
theorem t_pstart {pc : Nat} {B : PB} (H : pbIs h b 0 pc B) (hn : n ≤ 8) : ipC sc (d + 3) 51 [.ref b, .int (nI n)] h z 0 0 (qB h b z (fun h2 => plIs h2 b 0 n (start n))) := by
  refine ipC_mk [some (.ref b), some (.int (nI n)), none] rfl (Nat.le_of_ble_eq_true rfl) ?_
  refine c51_0 H.ob (Nat.zero_le _) (Nat.zero_le _) (t_pclear H) ?_
  rintro o h3 z3 ⟨rfl, rfl, hf3, sa, wf, ff, lf3, hps, w0, f0⟩
  have HB3 : pbIs h3 b 0 0 ([], [], [], []) := by
    refine ⟨(Nat.zero_le _), sa, wf, ff, lf3, hps, rowL_nil, rowL_nil, fun k hk => ?_, fun k hk => ?_, by decide, by decide, by decide, by decide⟩
    · have : k = 0 := Nat.le_zero.mp hk
      subst this
      exact w0
    · have : k = 0 := Nat.le_zero.mp hk
      subst this
      exact f0
  refine c51_4 ?_
  have sing : ∀ i : Nat, ((List.range i).map (fun k => [k])).flatten = List.range i := fun i => fl_single _
  have loop : ∀ (m i : Nat) (h4 : HP), i + m = n → frm b 5 h h4 → pbIs h4 b 0 0 (List.replicate i 3, [], (List.range i).map (fun k => [k]), []) → ip sc (ipC sc (d + 2)) 51 0 0 (qB h b z3 (fun h2 => plIs h2 b 0 n (start n))) 6 [some (.ref b), some (.int (nI n)), some (.int (nI i))] [] h4 z3 0 0 := by
    intro m
    induction m with
    | zero =>
      intro i h4 hi hf4 H4
      have : i = n := by omega
      subst this
      refine c51_6 (by omega) (by omega) (fun _ => ?_) (fun r => absurd (Nat.le_refl _) r)
      refine c51_31 H4.ob (Nat.zero_le _) (Nat.zero_le _) (t_closeField (d := d) H4 (fun c hc => ?_) (fun v hv => ?_) (by simp)) (kB fun h5 hf5 H5 => ?_)
      · rw [sing] at hc
        rw [List.length_replicate]
        exact List.mem_range.mp hc
      · have := (List.mem_replicate.mp hv).2
        omega
      · rw [clF_0, List.nil_append] at H5
        refine c51_35 H5.ob rfl ⟨rfl, rfl, (hf4.tr hf5).up (by omega), ?_⟩
        obtain ⟨l5, sa5, wf5, ff5, lf5, hps5, r5⟩ := H5
        obtain ⟨p0, p1, p2, p3, p4⟩ := hps5
        exact ⟨l5, sa5, wf5, ff5, lf5, ⟨hup_eq, hup_ne (by omega) p1, hup_ne (by omega) p2, hup_ne (by omega) p3, hup_ne (by omega) p4⟩, r5⟩
    | succ m ih =>
      intro i h4 hi hf4 H4
      refine c51_6 (by omega) (by omega) (fun r => absurd r (by omega)) (fun _ => ?_)
      refine c51_11 H4.ob (Nat.zero_le _) (Nat.zero_le _) (t_addSpot (d := d + 1) H4 3 (by rw [List.length_replicate]; omega)) (kB fun h5 hf5 H5 => ?_)
      have er : List.replicate i 3 ++ [3] = List.replicate (i + 1) 3 := List.replicate_succ'.symm
      rw [er] at H5
      have hlen : (bC (List.replicate (i + 1) 3, [], (List.range i).map (fun k => [k]), [])).length = i := by
        simp [bC, bW, sing]
      refine c51_16 H5.ob (Nat.zero_le _) (Nat.zero_le _) (t_put (d := d + 1) (a := i) (la := 3) H5 (by rw [List.getElem?_replicate, if_pos (by omega)]) (by omega) (fun c hc => by cases hc) (by rw [hlen]; omega)) (kB fun h6 hf6 H6 => ?_)
      have ep : pPut 0 (List.replicate (i + 1) 3) [] i = [i] := by
        unfold pPut
        rw [if_neg (by omega)]
        rfl
      rw [ep] at H6
      refine c51_21 H6.ob (Nat.zero_le _) (Nat.zero_le _) (t_closeWall (d := d + 1) H6 (fun c hc => by rw [List.mem_singleton.mp hc, List.length_replicate]; omega) (by simp [bW]; omega)) (kB fun h7 hf7 H7 => c51_25 (ih (i + 1) h7 (by omega) (((hf4.tr hf5).tr hf6).tr hf7) ?_))
      have ec : clW 0 ((List.range i).map (fun k => [k])) [i] = (List.range (i + 1)).map (fun k => [k]) := by
        unfold clW
        rw [if_neg (by omega), List.range_succ, List.map_append]
        rfl
      rw [ec] at H7
      exact H7
  exact loop n 0 h3 (by omega) hf3 HB3
theorem t_gstartO {i0 : Nat} {mv0 : Nat → MvT} (g1 : h g = some (.inr (0, [.ref (g + 1), .ref (g + 26)]))) (g2 : ntP h (g + 1) n t i0 mv0) (gg : ∃ r, h (g + 26) = some (.inl (5, 24, .inr (.inr (.inr (.inr r))))) ∧ ∀ k, k < 24 → r k = some (g + 27 + 5 * k)) (g5 : ∀ k, k < 24 → ∃ pc B, pbIs h (g + 27 + 5 * k) 0 pc B) {n2 : Nat} (h1 : 1 ≤ n2) (h8 : n2 ≤ 8) : ipC sc (d + 4) 2 [.ref g, .int (nI n2)] h z 0 0 (fun o h2 z2 => o = none ∧ z2 = z ∧ frm g 147 h h2 ∧ gmIs h2 g n2 0 mv) := by
  obtain ⟨r, g3, g4⟩ := gg
  refine ipC_mk [some (.ref g), some (.int (nI n2))] rfl (Nat.le_of_ble_eq_true rfl) ?_
  obtain ⟨pc, B, hB⟩ := g5 0 (by omega)
  have hB2 : ∀ e, pbIs (hup h (g + 1) e) (g + 27 + 5 * 0) 0 pc B := fun e => hB.off fun x q1 q2 => hup_ne (by omega) rfl
  refine c2_0 g1 rfl g2.1 rfl (by omega) rfl g3 (by omega) (by omega) (by decide) (g4 0 (by omega)) hB.ob (by omega) (Nat.zero_le _) (Nat.zero_le _) (t_pstart (d := d) (hB2 _) h8) (kB fun h2 hf2 H2 => c2_26 ?_)
  have hf : frm g 147 h h2 := fun x hx => (hf2 x (by omega)).trans (hup_ne (by omega) rfl)
  have he : ∀ x, x ≠ g + 1 → (x < g + 27 ∨ g + 32 ≤ x) → h2 x = h x := fun x q1 q2 => (hf2 x (by omega)).trans (hup_ne q1 rfl)
  refine ⟨rfl, rfl, hf, (he _ (by omega) (by omega)).trans g1, ⟨(hf2 _ (by omega)).trans hup_eq, ?_, fun k hk => (g2.2.2.1 k hk).off (he _ (by omega) (by omega)), fun k hk => absurd hk (by omega)⟩, ⟨r, (he _ (by omega) (by omega)).trans g3, g4⟩, fun k hk => ?_, fun k hk => ?_⟩
  · obtain ⟨r2, q3, q4⟩ := g2.2.1
    exact ⟨r2, (he _ (by omega) (by omega)).trans q3, q4⟩
  · by_cases e : k = 0
    · subst e
      exact ⟨_, _, H2⟩
    · exact ⟨_, _, (g5 k hk).choose_spec.choose_spec.off fun x q1 q2 => he x (by omega) (by omega)⟩
  · have : k = 0 := by omega
    subst this
    exact H2
theorem t_gstart (H : gmIs h g n t mv) {n2 : Nat} (h1 : 1 ≤ n2) (h8 : n2 ≤ 8) : ipC sc (d + 4) 2 [.ref g, .int (nI n2)] h z 0 0 (fun o h2 z2 => o = none ∧ z2 = z ∧ frm g 147 h h2 ∧ gmIs h2 g n2 0 mv) := t_gstartO H.1 H.2.1 H.2.2.1 H.2.2.2.1 h1 h8
theorem t_gplay (H : gmIs h g n t mv) (ok : gOK n t mv) {m : Nat} {mm : MvT} (hm : h m = some (.inr (2, mvV mm))) (hmd : m < g ∨ g + 147 ≤ m) (hl : lgl (gP n mv t) mm) : ipC sc (d + 5) 3 [.ref g, .ref m] h z 0 0 (fun o h2 z2 => o = some (.int (nI (gP n mv t).1.length)) ∧ z2 = z ∧ frm g 147 h h2 ∧ gmIs h2 g n (t + 1) (pu mv t mm)) := by
  have hr := ok.room hl
  have iv := ok.iv (Nat.le_refl t)
  have iv2 := inv_mv iv hl
  have hp := ok.pos (Nat.le_refl t)
  obtain ⟨g1, g2, ⟨r, g3, g4⟩, g5, g6⟩ := id H
  refine ipC_mk [some (.ref g), some (.ref m), none] rfl (Nat.le_of_ble_eq_true rfl) ?_
  refine c3_0 g1 rfl g2.1 rfl (by omega) (fun _ => ?_) (fun r => absurd (by omega) r)
  obtain ⟨pc, B, hB⟩ := g5 (t + 1) (by omega)
  have hQ := g6 t (Nat.le_refl t)
  refine c3_16 g1 rfl g3 (by omega) (by decide) (g4 (t + 1) (by omega)) (by omega) (g4 t (by omega)) hB.ob (Nat.zero_le _) (Nat.zero_le _) (t_become (d := d) hB hQ (Or.inl (by omega)) hm (by omega) hl iv.2.2.2.2.1 iv.2.2.2.1 iv.wB (fun _ => hp) iv2.cap.1 iv2.2.2.2.1.2) (kB fun h2 hf2 H2 => ?_)
  have he : ∀ x, x < g + 27 + 5 * (t + 1) ∨ g + 27 + 5 * (t + 1) + 5 ≤ x → h2 x = h x := hf2
  rw [lnP_0, List.nil_append] at H2
  obtain ⟨r2, q3, q4⟩ := g2.2.1
  obtain ⟨x1, x2, x3, x4, x5, x6, e6⟩ := g2.2.2.1 t (by omega)
  have e6b : h2 (g + 1 + 2 + t) = some (.inr (2, [.int x1, .int x2, .int x3, .int x4, .int x5, .int x6])) := (he _ (by omega)).trans e6
  refine c3_34 ((he _ (by omega)).trans g1) rfl ((he _ (by omega)).trans g2.1) rfl ((he _ (by omega)).trans q3) (by omega) (by decide) (q4 t (by omega)) e6b (Nat.zero_le _) (Nat.zero_le _) (t_mtake (d := d + 3) ((he _ (by omega)).trans hm) e6b (by omega)) ?_
  rintro o h3 z3 ⟨rfl, rfl, rfl⟩
  have N2 : ntP h2 (g + 1) n t t mv := g2.of (by omega) fun x q1 q2 => he x (by omega)
  have N3 : ntP (hup h2 (g + 1 + 2 + t) (.inr (2, mvV mm))) (g + 1) n t (t + 1) (pu mv t mm) := N2.put
  have hQ3 : plIs (hup h2 (g + 1 + 2 + t) (.inr (2, mvV mm))) (g + 27 + 5 * t) 0 (gC n mv t) (gP n mv t) := hQ.off fun x q1 q2 => hup_ne (by omega) (he x (by omega))
  refine c3_47 (hup_ne (by omega) ((he _ (by omega)).trans g1)) rfl N3.1 rfl (by omega) rfl (hup_ne (by omega) ((he _ (by omega)).trans g3)) (by omega) (by omega) (by decide) (g4 t (by omega)) hQ3.ob (by omega) rfl ⟨rfl, rfl, fun x hx => hup_ne (by omega) (hup_ne (by omega) (he x (by omega))), ?_⟩
  have hz : ∀ x, x ≠ g + 1 → x ≠ g + 1 + 2 + t → (x < g + 27 + 5 * (t + 1) ∨ g + 27 + 5 * (t + 1) + 5 ≤ x) → ∀ e : hE, hup (hup h2 (g + 1 + 2 + t) (.inr (2, mvV mm))) (g + 1) e x = h x := fun x a1 a2 a3 e => hup_ne a1 (hup_ne a2 (he x a3))
  refine ⟨(hz g (by omega) (by omega) (by omega) _).trans g1, ⟨hup_eq, ?_, fun k hk => ?_, fun k hk => hup_ne (by omega) (N3.2.2.2 k hk)⟩, ⟨r, (hz _ (by omega) (by omega) (by omega) _).trans g3, g4⟩, fun k hk => ?_, fun k hk => ?_⟩
  · obtain ⟨r3, k3, k4⟩ := N3.2.1
    exact ⟨r3, hup_ne (by omega) k3, k4⟩
  · exact (N3.2.2.1 k hk).off (hup_ne (by omega) rfl)
  · by_cases e : k = t + 1
    · subst e
      exact ⟨_, _, H2.off fun x q1 q2 => hup_ne (by omega) (hup_ne (by omega) rfl)⟩
    · exact ⟨_, _, (g5 k hk).choose_spec.choose_spec.off fun x q1 q2 => hz x (by omega) (by omega) (by omega) _⟩
  · by_cases e : k = t + 1
    · subst e
      rw [gP_new, gC_new]
      exact H2.off fun x q1 q2 => hup_ne (by omega) (hup_ne (by omega) rfl)
    · rw [gP_pu (by omega), gC_pu (by omega)]
      exact (g6 k (by omega)).off fun x q1 q2 => hz x (by omega) (by omega) (by omega) _
theorem t_gback (H : gmIs h g n t mv) (ht : t ≤ 23) : ipC sc (d + 1) 4 [.ref g] h z 0 0 (fun o h2 z2 => z2 = z ∧ frm g 147 h h2 ∧ ((t = 0 ∧ o = some (.int (-1)) ∧ h2 = h) ∨ (1 ≤ t ∧ o = some (.int (nI (t - 1))) ∧ gmIs h2 g n (t - 1) mv))) := by
  obtain ⟨g1, g2, ⟨r, g3, g4⟩, g5, g6⟩ := id H
  refine ipC_mk [some (.ref g)] rfl (Nat.le_of_ble_eq_true rfl) ?_
  refine c4_0 g1 rfl g2.1 rfl (by omega) (fun r => ?_) (fun r => c4_10 ⟨rfl, frm.rf, Or.inl ⟨Classical.not_not.mp r, rfl, rfl⟩⟩)
  refine c4_12 g1 rfl g2.1 rfl (by omega) rfl (by omega) ⟨rfl, frm.rf.up (by omega), Or.inr ⟨by omega, rfl, ?_⟩⟩
  refine ⟨hup_ne (by omega) g1, ⟨hup_eq, ?_, fun k hk => (g2.2.2.1 k hk).off (hup_ne (by omega) rfl), fun k hk => hup_ne (by omega) (g2.2.2.2 k (by omega))⟩, ⟨_, hup_ne (by omega) g3, g4⟩, fun k hk => ⟨_, _, (g5 k hk).choose_spec.choose_spec.off fun x q1 q2 => hup_ne (by omega) rfl⟩, fun k hk => (g6 k (by omega)).off fun x q1 q2 => hup_ne (by omega) rfl⟩
  obtain ⟨r3, k3, k4⟩ := g2.2.1
  exact ⟨r3, hup_ne (by omega) k3, k4⟩
theorem t_greplay (H : gmIs h g n t mv) {A n2 t2 : Nat} {mv2 : Nat → MvT} (HA : ntIs h A n2 t2 mv2) (ok : gOK n2 t2 mv2) (hd : A + 25 ≤ g ∨ g + 147 ≤ A) : ipC sc (d + 6) 5 [.ref g, .ref A] h z 0 0 (fun o h2 z2 => o = none ∧ z2 = z ∧ frm g 147 h h2 ∧ gmIs h2 g n2 t2 mv2) := by
  have ht := ok.t23
  refine ipC_mk [some (.ref g), some (.ref A), none] rfl (Nat.le_of_ble_eq_true rfl) ?_
  refine c5_0 HA.1 rfl H.1 (Nat.zero_le _) (Nat.zero_le _) (t_gstart (d := d + 1) H ok.1 ok.2.1) ?_
  rintro o h3 z3 ⟨rfl, rfl, hf3, H3⟩
  refine c5_8 ?_
  have loop : ∀ (m i : Nat) (h4 : HP) (mv4 : Nat → MvT), i + m = t2 → frm g 147 h h4 → (∀ k, k < i → mv4 k = mv2 k) → gmIs h4 g n2 i mv4 → ip sc (ipC sc (d + 5)) 5 0 0 (fun o h2 z2 => o = none ∧ z2 = z3 ∧ frm g 147 h h2 ∧ gmIs h2 g n2 t2 mv2) 10 [some (.ref g), some (.ref A), some (.int (nI i))] [] h4 z3 0 0 := by
    intro m
    induction m with
    | zero =>
      intro i h4 mv4 hi hf hm H4
      have : i = t2 := by omega
      subst this
      have HA4 : ntIs h4 A n2 i mv2 := HA.of ht fun x q1 q2 => hf x (by omega)
      exact c5_10 HA4.1 rfl (by omega) (by omega) (fun _ => c5_35 ⟨rfl, rfl, hf, H4.cg fun k hk => (hm k hk).symm⟩) (fun r => absurd (Nat.le_refl _) r)
    | succ m ih =>
      intro i h4 mv4 hi hf hm H4
      have HA4 : ntIs h4 A n2 t2 mv2 := HA.of ht fun x q1 q2 => hf x (by omega)
      obtain ⟨r, k3, k4⟩ := HA4.2.1
      have ok4 : gOK n2 i mv4 := ⟨ok.1, ok.2.1, fun k hk => by
        rw [gP_congr (mv := mv2) fun l hl => hm l (by omega), hm k hk]
        exact ok.2.2 k (by omega)⟩
      have hl : lgl (gP n2 mv4 i) (mv2 i) := by
        rw [gP_congr (mv := mv2) fun l hl => hm l (by omega)]
        exact ok.2.2 i (by omega)
      refine c5_10 HA4.1 rfl (by omega) (by omega) (fun r => absurd r (by omega)) (fun _ => ?_)
      refine c5_18 HA4.1 rfl k3 (by omega) (by decide) (k4 i (by omega)) H4.1 (Nat.zero_le _) (Nat.zero_le _) (t_gplay (d := d) H4 ok4 (HA4.2.2.2 i (by omega)) (by omega) hl) ?_
      rintro o h5 z5 ⟨rfl, rfl, hf5, H5⟩
      refine c5_28 (ih (i + 1) h5 (pu mv4 i (mv2 i)) (by omega) (hf.tr hf5) (fun k hk => ?_) H5)
      by_cases e : k = i
      · subst e
        exact pu_eq
      · rw [pu_ne e]
        exact hm k (by omega)
  exact loop t2 0 h3 mv (by omega) hf3 (fun k hk => absurd hk (by omega)) H3
end CLS
