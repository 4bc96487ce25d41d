/-! the class's Parts: read, livesOf -/
def prF (F : List (List (List Nat))) : Nat → List (Nat × Nat)
  | 0 => []
  | f + 1 => prF F f ++ ((F.getD f []).flatten).map (fun a => (a, f))
theorem prF_mem {F : List (List (List Nat))} {a g : Nat} : ∀ {n}, (a, g) ∈ prF F n ↔ g < n ∧ a ∈ (F.getD g []).flatten
  | 0 => by simp [prF]
  | n + 1 => by
    unfold prF
    rw [List.mem_append, prF_mem, List.mem_map]
    constructor
    · rintro (⟨h1, h2⟩ | ⟨x, h1, h2⟩)
      · exact ⟨by omega, h2⟩
      · injection h2 with e1 e2
        subst e1 e2
        exact ⟨by omega, h1⟩
    · rintro ⟨h1, h2⟩
      by_cases e : g = n
      · subst e
        exact Or.inr ⟨a, h2, rfl⟩
      · exact Or.inl ⟨by omega, h2⟩
theorem prF_fst {F : List (List (List Nat))} : ∀ {n}, n ≤ F.length → (prF F n).map Prod.fst = (F.take n).flatten.flatten
  | 0, _ => rfl
  | n + 1, h => by
    unfold prF
    rw [List.map_append, prF_fst (by omega), List.take_succ, gD (d := []) (by omega : n < F.length), List.map_map]
    simp [Function.comp_def]
theorem field_at {P : PosT} {f c a : Nat} {Fd : List (List Nat)} (hf : P.2[f]? = some Fd) (hc : Fd.flatten[c]? = some a) : (pC P)[lSt (pW P) (lSt P.2 f) + c]? = some a := by
  have h1 : (P.2.map List.flatten)[f]? = some Fd.flatten := by rw [List.getElem?_map, hf]; rfl
  have h2 := lSt_at h1 hc
  have e1 : (P.2.map List.flatten).flatten = pC P := by
    unfold pC pW
    rw [List.flatten_flatten]
  have e2 : lSt (P.2.map List.flatten) f = lSt (pW P) (lSt P.2 f) := by
    have hl := lt_some hf
    have := take_fl2 (k := 0) hf (Nat.zero_le _)
    unfold lSt at this ⊢
    rw [Nat.add_zero, List.take_zero, List.append_nil] at this
    unfold pW
    rw [this, ← List.map_take, ← List.flatten_flatten]
  rw [e1, e2] at h2
  exact h2
theorem field_len {P : PosT} {f : Nat} {Fd : List (List Nat)} (hf : P.2[f]? = some Fd) : lSt (pW P) (lSt P.2 (f + 1)) = lSt (pW P) (lSt P.2 f) + Fd.flatten.length := by
  have h1 := take_fl2 (k := 0) hf (Nat.zero_le _)
  have h2 := take_fl2 (k := Fd.length) hf (Nat.le_refl _)
  rw [← lSt_s hf] at h2
  rw [Nat.add_zero, List.take_zero, List.append_nil] at h1
  rw [List.take_length] at h2
  unfold lSt at h1 h2 ⊢
  unfold pW
  rw [h1, h2, List.flatten_append, List.length_append]
theorem all_bits : ∀ n, n < 25 → ((nI 1) <<< ((nI n) &&& 31)) - (nI 1) = nI (2 ^ n - 1) := by
  intro v hv
  have h : ∀ k : Fin 25, ((nI 1) <<< ((nI k.val) &&& 31)) - (nI 1) = nI (2 ^ k.val - 1) := by decide +kernel
  exact h ⟨v, hv⟩
theorem ptS.next {n nf : Nat} {pr : List (Nat × Nat)} {tm fi lk : Nat → Int32} {fN lN : Nat → Nat} (S : ptS n nf pr tm fi lk fN lN) (h : nf < 24) : ptS n (nf + 1) pr tm fi (upd lk nf (nI (2 ^ nf))) fN (fun g => if g = nf then 2 ^ nf else lN g) := by
  obtain ⟨s1, s2, s3, s4, s5, s6, s7, s8, s9⟩ := S
  have tb : ∀ g i, g < nf + 1 → ((if g = nf then 2 ^ nf else lN g).testBit i = true ↔ ((g = nf ∧ i = nf) ∨ (g < nf ∧ (lN g).testBit i = true))) := fun g i hg => by
    by_cases e : g = nf
    · rw [if_pos e, Nat.testBit_two_pow, decide_eq_true_eq]
      omega
    · rw [if_neg e]
      constructor
      · exact fun q => Or.inr ⟨by omega, q⟩
      · rintro (q | q)
        · exact absurd q.1 e
        · exact q.2
  refine ⟨s1, s2, fun a g hx => ⟨by have := (s3 a g hx).1; omega, (s3 a g hx).2⟩, fun g hg => ?_, fun g g2 hg hg2 => ?_, fun a g hx => ?_, fun g i hg hi => ?_, by omega, s9⟩
  · show _ = nI (if g = nf then 2 ^ nf else lN g)
    by_cases e : g = nf
    · rw [if_pos e, e, pk_us]
    · rw [pk_un e, if_neg e]
      exact s4 g (by omega)
  · rw [Bool.eq_iff_iff, tb g g2 hg, tb g2 g hg2]
    constructor
    · rintro (q | ⟨q1, q2⟩)
      · exact Or.inl (by omega)
      · have := s7 g g2 q1 q2
        exact Or.inr ⟨this, by rw [← s5 g g2 q1 this]; exact q2⟩
    · rintro (q | ⟨q1, q2⟩)
      · exact Or.inl (by omega)
      · have := s7 g2 g q1 q2
        exact Or.inr ⟨this, by rw [← s5 g2 g q1 this]; exact q2⟩
  · have hg := (s3 a g hx).1
    rcases s6 a g hx with q | q
    · exact Or.inl q
    · exact Or.inr ((tb g _ (by omega)).mpr (Or.inr ⟨hg, q⟩))
  · rcases (tb g i hg).mp hi with q | ⟨q1, q2⟩
    · omega
    · have := s7 g i q1 q2
      omega
section PT
variable {sc : ipSc} {d z b q le pc : Nat} {h : HP} {fl : Int32} {tm fi la lk : Nat → Int32} {P : PosT}
set_option maxHeartbeats 1000000 in
theorem t_read (H : ptA h b fl tm fi la lk) (HQ : plIs h q le pc P) (hd : ap5 b q) (hok : posOK P) : ipC sc (d + 2) 30 [.ref b, .ref q] h z 0 0 (ptQ h b z (fun h2 => ∃ tm2 fi2 la2 lk2 fN lN, ptA h2 b (nI (2 ^ P.2.length - 1)) tm2 fi2 la2 lk2 ∧ ptS P.1.length P.2.length (prF P.2 P.2.length) tm2 fi2 lk2 fN lN)) := by
  obtain ⟨-, sa, wf, ff, lf, hps, r1, r2, r3, r4, k1, k2, k3, k4⟩ := id HQ
  rw [bW_c] at k2 r3
  rw [bC_c] at k1 r2
  simp only at k3 k4 r1 r4
  have hW : P.2.flatten = pW P := rfl
  have hC : P.2.flatten.flatten = pC P := rfl
  rw [hW] at k2 r3
  rw [hC] at k1 r2
  have hd : q + 5 ≤ b ∨ b + 5 ≤ q := hd
  have HPs : ∀ h2, frm b 5 h h2 → psA h2 q le (pC P).length (pW P).length P.2.length P.1.length pc P.1.sum sa wf ff lf := fun h2 hf => by
    have := hps.off (h2 := h2) fun x y1 y2 => hf x (by omega)
    rw [bC_c, bW_c] at this
    exact this
  generalize hQ : ptQ h b z (fun h2 => ∃ tm2 fi2 la2 lk2 fN lN, ptA h2 b (nI (2 ^ P.2.length - 1)) tm2 fi2 la2 lk2 ∧ ptS P.1.length P.2.length (prF P.2 P.2.length) tm2 fi2 lk2 fN lN) = Q0
  refine ipC_mk [some (.ref b), some (.ref q), none, none] rfl (Nat.le_of_ble_eq_true rfl) (c30_0 ?_)
  -- the corners of a field
  have loopC : ∀ (m c f : Nat) (Fd : List (List Nat)) (h3 : HP) (tm fi la lk : Nat → Int32) (fN lN : Nat → Nat), P.2[f]? = some Fd → c + m = Fd.flatten.length → frm b 5 h h3 → ptA h3 b fl tm fi la lk → ptS P.1.length (f + 1) (prF P.2 f ++ (Fd.flatten.take c).map (fun a => (a, f))) tm fi lk fN lN → (∀ (h4 : HP) (tm fi la lk : Nat → Int32) (fN lN : Nat → Nat), frm b 5 h h4 → ptA h4 b fl tm fi la lk → ptS P.1.length (f + 1) (prF P.2 (f + 1)) tm fi lk fN lN → ∀ o3, ip sc (ipC sc (d + 1)) 30 0 0 Q0 88 [some (.ref b), some (.ref q), some (.int (nI f)), o3] [] h4 z 0 0) → ip sc (ipC sc (d + 1)) 30 0 0 Q0 54 [some (.ref b), some (.ref q), some (.int (nI f)), some (.int (nI (lSt (pW P) (lSt P.2 f) + c)))] [] h3 z 0 0 := by
    intro m
    induction m with
    | zero =>
      intro c f Fd h3 tm fi la lk fN lN hf hc hf3 H3 S3 K
      obtain ⟨p1, p2, p3, p4, p5⟩ := HPs h3 hf3
      have hfl := lt_some hf
      have e1 := field_len hf
      have e2 := lSt_le (l := pW P) (f := lSt P.2 (f + 1))
      have e3 := lSt_le (l := P.2) (f := f + 1)
      rw [hW] at e3
      have e4 : (pW P).flatten.length = (pC P).length := rfl
      refine c30_54 p1 rfl rfl p4 (by omega) (by decide) (r4 (f + 1) (by omega)) p3 (by omega) (by decide) (r3 _ e3) (by omega) (by omega) (fun _ => ?_) (fun r => absurd (by omega) r)
      have et : Fd.flatten.take c = Fd.flatten := List.take_of_length_le (by omega)
      rw [et] at S3
      refine K h3 tm fi la lk fN lN hf3 H3 ?_ _
      have : prF P.2 (f + 1) = prF P.2 f ++ Fd.flatten.map (fun a => (a, f)) := by
        have := getD_of (d := []) hf
        show prF P.2 f ++ ((P.2.getD f []).flatten).map (fun a => (a, f)) = _
        rw [this]
      rw [this]
      exact S3
    | succ m ih =>
      intro c f Fd h3 tm fi la lk fN lN hf hc hf3 H3 S3 K
      obtain ⟨p1, p2, p3, p4, p5⟩ := HPs h3 hf3
      have hfl := lt_some hf
      have e1 := field_len hf
      have e2 := lSt_le (l := pW P) (f := lSt P.2 (f + 1))
      have e3 := lSt_le (l := P.2) (f := f + 1)
      rw [hW] at e3
      have e4 : (pW P).flatten.length = (pC P).length := rfl
      obtain ⟨a, ha⟩ := gt_some (l := Fd.flatten) (i := c) (by omega)
      have hco := field_at hf ha
      have hcl := lt_some hco
      have hal := hok.1 a (List.mem_of_getElem? hco)
      refine c30_54 p1 rfl rfl p4 (by omega) (by decide) (r4 (f + 1) (by omega)) p3 (by omega) (by decide) (r3 _ e3) (by omega) (by omega) (fun r => absurd r (by omega)) (fun _ => ?_)
      have hpl : (prF P.2 f ++ (Fd.flatten.take c).map (fun a => (a, f))).length < 200 := by
        have l1 := congrArg List.length (prF_fst (F := P.2) (n := f) (by omega))
        rw [List.length_map] at l1
        have l2 := take_fl2 (k := 0) hf (Nat.zero_le _)
        rw [Nat.add_zero, List.take_zero, List.append_nil] at l2
        have l3 : (P.2.take f).flatten.flatten.length = lSt (pW P) (lSt P.2 f) := by
          unfold lSt at l2 ⊢
          unfold pW
          rw [l2]
        rw [List.length_append, List.length_map, List.length_take, l1, l3]
        omega
      refine c30_71 p1 rfl p2 (by omega) (by decide) (rowL_at r2 hco) H3.1 (Nat.zero_le _) (Nat.zero_le _) (t_note H3 S3 hpl hal (by omega) (fun x hx => ?_)) ?_
      · obtain ⟨x1, x2⟩ := x
        have := (S3.2.2.1 x1 x2 hx).1
        show x2 ≤ f
        omega
      · rintro o h4 z4 ⟨rfl, rfl, hf4, tm4, fi4, la4, lk4, fN4, lN4, H4, S4⟩
        refine c30_82 (ih (c + 1) f Fd h4 tm4 fi4 la4 lk4 fN4 lN4 hf (by omega) (hf3.tr hf4) H4 ?_ K)
        have : (Fd.flatten.take (c + 1)).map (fun a => (a, f)) = (Fd.flatten.take c).map (fun a => (a, f)) ++ [(a, f)] := by
          rw [List.take_succ, ha]
          simp
        rw [this, ← List.append_assoc]
        exact S4
  -- the fields
  have loopF : ∀ (m f : Nat) (h3 : HP) (tm fi la lk : Nat → Int32) (fN lN : Nat → Nat), f + m = P.2.length → frm b 5 h h3 → ptA h3 b fl tm fi la lk → ptS P.1.length f (prF P.2 f) tm fi lk fN lN → ∀ o3, ip sc (ipC sc (d + 1)) 30 0 0 Q0 25 [some (.ref b), some (.ref q), some (.int (nI f)), o3] [] h3 z 0 0 := by
    intro m
    induction m with
    | zero =>
      intro f h3 tm fi la lk fN lN hfm hf3 H3 S3 o3
      obtain ⟨p1, p2, p3, p4, p5⟩ := HPs h3 hf3
      refine c30_25 (v_fs1_7 := P.2.length) p1 rfl (by omega) (by omega) (fun _ => ?_) (fun r => absurd (by omega) r)
      refine c30_94 (v_fs1_7 := P.2.length) p1 rfl H3.1 rfl ?_
      rw [all_bits _ (by omega), ← hQ]
      have ef : f = P.2.length := by omega
      rw [ef] at S3
      obtain ⟨g0, g1, g2, g3, g4⟩ := H3
      exact ⟨rfl, rfl, hf3.up (by omega), tm, fi, la, lk, fN, lN, ⟨hup_eq, hup_ne (by omega) g1, hup_ne (by omega) g2, hup_ne (by omega) g3, hup_ne (by omega) g4⟩, S3⟩
    | succ m ih =>
      intro f h3 tm fi la lk fN lN hfm hf3 H3 S3 o3
      obtain ⟨p1, p2, p3, p4, p5⟩ := HPs h3 hf3
      obtain ⟨Fd, hf⟩ := gt_some (l := P.2) (i := f) (by omega)
      obtain ⟨g0, g1, g2, g3, g4⟩ := id H3
      have e2 := lSt_le (l := pW P) (f := lSt P.2 f)
      have e3 := lSt_le (l := P.2) (f := f)
      rw [hW] at e3
      refine c30_25 (v_fs1_7 := P.2.length) p1 rfl (by omega) (by omega) (fun r => absurd r (by omega)) (fun _ => ?_)
      refine c30_33 g0 rfl g4 (by omega) (by decide) rfl p1 (by omega) rfl rfl p4 (by omega) (by omega) (by decide) (r4 f (by omega)) p3 (by omega) (by omega) (by decide) (r3 _ e3) ?_
      rw [shl_bit2 _ (by omega)]
      have := loopC Fd.flatten.length 0 f Fd (hup h3 (b + 4) (.inl (0, 24, .inl (upd lk f (nI (2 ^ f)))))) tm fi la (upd lk f (nI (2 ^ f))) fN _ hf (by omega) (hf3.up (by omega)) ⟨hup_ne (by omega) g0, hup_ne (by omega) g1, hup_ne (by omega) g2, hup_ne (by omega) g3, hup_eq⟩ (by rw [List.take_zero, List.map_nil, List.append_nil]; exact S3.next (by omega)) (fun h4 tm fi la lk fN lN hf4 H4 S4 o3 => c30_88 (ih (f + 1) h4 tm fi la lk fN lN (by omega) hf4 H4 S4 o3))
      rw [Nat.add_zero] at this
      exact this
  -- no spot is met yet
  have loop0 : ∀ (m a : Nat) (h3 : HP) (tm : Nat → Int32), a + m = P.1.length → frm b 5 h h3 → ptA h3 b fl tm fi la lk → (∀ x, x < a → tm x = nI 0) → ip sc (ipC sc (d + 1)) 30 0 0 Q0 2 [some (.ref b), some (.ref q), some (.int (nI a)), none] [] h3 z 0 0 := by
    intro m
    induction m with
    | zero =>
      intro a h3 tm ham hf3 H3 ht
      obtain ⟨p1, p2, p3, p4, p5⟩ := HPs h3 hf3
      refine c30_2 (v_fs1_8 := P.1.length) p1 rfl (by omega) (by omega) (fun _ => c30_23 ?_) (fun r => absurd (by omega) r)
      refine loopF P.2.length 0 h3 tm fi la lk (fun _ => 0) (fun _ => 0) (by omega) hf3 H3 ⟨fun x hx => ht x (by omega), fun x g hx => (by cases hx), fun x g hx => (by cases hx), fun g hg => absurd hg (Nat.not_lt_zero _), fun g g2 hg => absurd hg (Nat.not_lt_zero _), fun x g hx => (by cases hx), fun g i hg => absurd hg (Nat.not_lt_zero _), by omega, by omega⟩ _
    | succ m ih =>
      intro a h3 tm ham hf3 H3 ht
      obtain ⟨p1, p2, p3, p4, p5⟩ := HPs h3 hf3
      obtain ⟨g0, g1, g2, g3, g4⟩ := id H3
      refine c30_2 (v_fs1_8 := P.1.length) p1 rfl (by omega) (by omega) (fun r => absurd r (by omega)) (fun _ => ?_)
      refine c30_10 g0 rfl g1 (by omega) (by decide) rfl (ih (a + 1) _ _ (by omega) (hf3.up (by omega)) ⟨hup_ne (by omega) g0, hup_eq, hup_ne (by omega) g2, hup_ne (by omega) g3, hup_ne (by omega) g4⟩ fun x hx => ?_)
      by_cases e : x = a
      · rw [e, pk_us]
      · rw [pk_un e]
        exact ht x (by omega)
  exact loop0 P.1.length 0 h tm (by omega) frm.rf H fun x hx => absurd hx (Nat.not_lt_zero _)
/-- the lives of a set of fields -/
def lvM (L : List Nat) (pr : List (Nat × Nat)) (fN : Nat → Nat) (w : Nat) : Nat → Nat
  | 0 => 0
  | a + 1 => lvM L pr fN w a + (if 0 < pr.countP (fun x => x.1 == a) ∧ w.testBit (fN a) = true then L.getD a 0 else 0)
theorem lvM_le {L : List Nat} {pr : List (Nat × Nat)} {fN : Nat → Nat} {w : Nat} : ∀ n, lvM L pr fN w n ≤ 3 * n ∨ ∃ v ∈ L, 3 < v
  | 0 => Or.inl (Nat.le_refl _)
  | n + 1 => by
    rcases lvM_le (L := L) (pr := pr) (fN := fN) (w := w) n with h | h
    · by_cases q : L.getD n 0 ≤ 3
      · left
        unfold lvM
        split <;> omega
      · right
        by_cases q2 : n < L.length
        · exact ⟨_, List.mem_of_getElem? (gD (d := 0) q2), by omega⟩
        · rw [getD_out (by omega)] at q
          omega
    · exact Or.inr h
theorem t_livesOfP {nf : Nat} {fN lN : Nat → Nat} {pr : List (Nat × Nat)} (H : ptA h b fl tm fi la lk) (S : ptS P.1.length nf pr tm fi lk fN lN) (hpl : pr.length < 200) (HQ : plIs h q le pc P) (hok : posOK P) {w : Nat} (hw : w < 2 ^ 24) : ipC sc (d + 1) 34 [.ref b, .int (nI w), .ref q] h z 0 0 (qI (nI (lvM P.1 pr fN w P.1.length)) h z) := by
  obtain ⟨-, sa, wf, ff, lf, hps, r1, r2, r3, r4, k1, k2, k3, k4⟩ := id HQ
  simp only at k4 r1
  obtain ⟨p1, p2, p3, p4, p5⟩ := hps
  obtain ⟨g0, g1, g2, g3, g4⟩ := id H
  obtain ⟨s1, s2, s3, s4, s5, s6, s7, s8, s9⟩ := id S
  refine ipC_mk [some (.ref b), some (.int (nI w)), some (.ref q), none, none] rfl (Nat.le_of_ble_eq_true rfl) (c34_0 ?_)
  have loop : ∀ (m a : Nat), a + m = P.1.length → ip sc (ipC sc d) 34 0 0 (qI (nI (lvM P.1 pr fN w P.1.length)) h z) 5 [some (.ref b), some (.int (nI w)), some (.ref q), some (.int (nI (lvM P.1 pr fN w a))), some (.int (nI a))] [] h z 0 0 := by
    intro m
    induction m with
    | zero =>
      intro a ham
      refine c34_5 (v_fs1_8 := P.1.length) p1 rfl (by omega) (by omega) (fun _ => c34_55 ?_) (fun r => absurd (by omega) r)
      rw [show a = P.1.length by omega]
      exact ⟨rfl, rfl, rfl⟩
    | succ m ih =>
      intro a ham
      have hc := List.countP_le_length (p := fun x => x.1 == a) (l := pr)
      have ih := ih (a + 1) (by omega)
      refine c34_5 (v_fs1_8 := P.1.length) p1 rfl (by omega) (by omega) (fun r => absurd r (by omega)) (fun _ => ?_)
      refine c34_14 g0 rfl g1 (by omega) (by decide) (s1 a (by omega)) (by omega) (fun r => c34_49 ?_) (fun r => ?_)
      · have e : lvM P.1 pr fN w (a + 1) = lvM P.1 pr fN w a := by
          show _ + (if _ then _ else _) = _
          rw [if_neg (by omega), Nat.add_zero]
        rw [e] at ih
        exact ih
      · obtain ⟨g, hg⟩ : ∃ g, (a, g) ∈ pr := Classical.byContradiction fun q => r (Nat.le_of_eq (cnt_pr.mpr fun g hg => q ⟨g, hg⟩))
        obtain ⟨e1, e2⟩ := s2 a g hg
        have hfn := (s3 a _ e2).1
        have hbit : ((((nI w) >>> ((nI (fN a)) &&& 31)) &&& (nI 1)) = (nI 1)) ↔ w.testBit (fN a) = true := by
          rw [bitN (by omega) (by omega), ← bit_mod]
          have : w / 2 ^ fN a % 2 < 2 := Nat.mod_lt _ (by decide)
          exact ⟨fun q => (nI_eq (by omega) (by omega)).mp q, fun q => by rw [q]⟩
        refine c34_24 g0 rfl g2 (by omega) (by decide) e1 (fun r2 => c34_49 ?_) (fun r2 => ?_)
        · have e : lvM P.1 pr fN w (a + 1) = lvM P.1 pr fN w a := by
            show _ + (if _ then _ else _) = _
            rw [if_neg (fun q => r2 (hbit.mpr q.2)), Nat.add_zero]
          rw [e] at ih
          exact ih
        · have e : lvM P.1 pr fN w (a + 1) = lvM P.1 pr fN w a + P.1.getD a 0 := by
            show _ + (if _ then _ else _) = _
            rw [if_pos ⟨by omega, hbit.mp (Decidable.not_not.mp r2)⟩]
          rw [e] at ih
          exact c34_39 p1 rfl p5 (by omega) (by decide) (rowL_at r1 (gD (d := 0) (by omega))) (c34_49 ih)
  exact loop P.1.length 0 (by omega)
end PT
