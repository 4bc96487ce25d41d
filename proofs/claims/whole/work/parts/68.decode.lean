/-! the class's Solver: decode -/
def dcLife (s : Nat) : Nat := if s = 1 then 3 else if s = 2 then 2 else 1
abbrev DS : Type := PB × (Nat → Option Nat)
def dcSpot (st : DS) (s : Nat) : Nat × List Nat × (Nat → Option Nat) := match (if 4 ≤ s then st.2 s else none) with
  | some a => (a, st.1.1, st.2)
  | none => (st.1.1.length, st.1.1 ++ [dcLife s], fun x => if x = s then some st.1.1.length else st.2 x)
def dcEnd (B : PB) (e : Nat) : PB := if e = 0 then B else if e = 2 then (B.1, clF 1 B.1 B.2.1 (clW 1 B.2.2.1 B.2.2.2), [], []) else (B.1, B.2.1, clW 1 B.2.2.1 B.2.2.2, [])
def dcStep (st : DS) (c : Nat) : DS := (dcEnd ((dcSpot st (c / 4 % 16)).2.1, st.1.2.1, st.1.2.2.1, pPut 1 (dcSpot st (c / 4 % 16)).2.1 st.1.2.2.2 (dcSpot st (c / 4 % 16)).1) (c % 4), (dcSpot st (c / 4 % 16)).2.2)
def dcd (l : List Nat) : PB := (l.foldl dcStep (([], [], [], []), fun _ => none)).1
/-- how far decoding can have come behind so many corners -/
def dcI (k : Nat) (st : DS) : Prop := st.1.1.length ≤ k ∧ (bC st.1).length ≤ k ∧ (bW st.1).length ≤ k ∧ st.1.2.1.length ≤ k ∧ (∀ v ∈ st.1.1, v ≤ 3) ∧ (∀ c ∈ st.1.2.2.2, c < st.1.1.length) ∧ (∀ c ∈ st.1.2.2.1.flatten, c < st.1.1.length) ∧ ∀ s a, st.2 s = some a → a < st.1.1.length
theorem dcW_mem {X : List (List Nat)} {C : List Nat} {c : Nat} (h : c ∈ (clW 1 X C).flatten) : c ∈ X.flatten ∨ c ∈ C := by
  unfold clW at h
  rw [if_pos rfl] at h
  split at h
  · exact Or.inl h
  · rw [List.flatten_append, List.mem_append] at h
    rcases h with h | h
    · exact Or.inl h
    · right
      exact pC1_sub.subset (by simpa using h)
theorem dcP_mem {lv C : List Nat} {a c : Nat} (h : c ∈ pPut 1 lv C a) : c ∈ C ∨ c = a := by
  unfold pPut at h
  split at h
  · exact Or.inl h
  · rcases List.mem_append.mp h with h | h
    · exact Or.inl h
    · exact Or.inr (List.mem_singleton.mp h)
theorem dcP_len {lv C : List Nat} {a : Nat} : (pPut 1 lv C a).length ≤ C.length + 1 := by
  unfold pPut
  split
  · omega
  · simp
theorem dcSpot_I {k : Nat} {st : DS} {s : Nat} (h : dcI k st) : (dcSpot st s).1 < (dcSpot st s).2.1.length ∧ (dcSpot st s).2.1.length ≤ k + 1 ∧ (∀ v ∈ (dcSpot st s).2.1, v ≤ 3) ∧ st.1.1.length ≤ (dcSpot st s).2.1.length ∧ ∀ x a, (dcSpot st s).2.2 x = some a → a < (dcSpot st s).2.1.length := by
  obtain ⟨h1, h2, h3, h4, h5, h6, h7, h8⟩ := h
  unfold dcSpot
  split
  · rename_i a e
    have ha : a < st.1.1.length := by
      split at e
      · exact h8 s a e
      · cases e
    exact ⟨ha, by simp only; omega, h5, Nat.le_refl _, h8⟩
  · refine ⟨by simp, by simp only [List.length_append, List.length_cons, List.length_nil]; omega, fun v hv => ?_, by simp, fun x a e => ?_⟩
    · rcases List.mem_append.mp hv with hv | hv
      · exact h5 v hv
      · rw [List.mem_singleton.mp hv]
        unfold dcLife
        split
        · omega
        · split <;> omega
    · simp only at e
      split at e
      · have := Option.some.inj e
        simp only [List.length_append, List.length_cons, List.length_nil]
        omega
      · have := h8 x a e
        simp only [List.length_append, List.length_cons, List.length_nil]
        omega
theorem dcI_step {k : Nat} {st : DS} (h : dcI k st) (c : Nat) : dcI (k + 1) (dcStep st c) := by
  obtain ⟨q1, q2, q3, q4, q5⟩ := dcSpot_I (s := c / 4 % 16) h
  obtain ⟨h1, h2, h3, h4, h5, h6, h7, h8⟩ := h
  unfold dcStep
  generalize dcSpot st (c / 4 % 16) = r at q1 q2 q3 q4 q5
  obtain ⟨a, lv, ls⟩ := r
  obtain ⟨⟨lv0, F, X, C⟩, ls0⟩ := st
  simp only at q1 q2 q3 q4 q5 h1 h2 h3 h4 h5 h6 h7 h8
  have hC2 : ∀ x ∈ pPut 1 lv C a, x < lv.length := fun x hx => by
    rcases dcP_mem hx with hx | hx
    · have := h6 x hx; omega
    · omega
  have hX2 : ∀ x ∈ X.flatten, x < lv.length := fun x hx => by have := h7 x hx; omega
  have hl := dcP_len (lv := lv) (C := C) (a := a)
  have hw := clW_len (le := 1) (X := X) (C := pPut 1 lv C a)
  have hf := clF_len (le := 1) (lv := lv) (F := F) (X := clW 1 X (pPut 1 lv C a))
  simp only [bC, bW, List.length_append, List.flatten_append] at h2 h3
  unfold dcEnd
  simp only
  split
  · refine ⟨by simp only; omega, ?_, ?_, by simp only; omega, q3, hC2, hX2, q5⟩
    · simp only [bC, bW, List.length_append, List.flatten_append]; omega
    · simp only [bW, List.length_append]; omega
  · split
    · refine ⟨by simp only; omega, ?_, ?_, by simp only; omega, q3, fun x hx => (by cases hx), fun x hx => (by cases hx), q5⟩
      · simp only [bC, bW, List.length_append, List.flatten_append, List.flatten_nil, List.length_nil]; omega
      · simp only [bW, List.length_append, List.length_nil]; omega
    · refine ⟨by simp only; omega, ?_, ?_, by simp only; omega, q3, fun x hx => (by cases hx), fun x hx => ?_, q5⟩
      · simp only [bC, bW, List.length_append, List.flatten_append, List.length_nil]; omega
      · simp only [bW, List.length_append]; omega
      · rcases dcW_mem hx with hx | hx
        · exact hX2 x hx
        · exact hC2 x hx
def lsA (h : HP) (r : Nat) (ls : Nat → Option Nat) : Prop := ∃ lf, h r = some (.inl (0, 16, .inl lf)) ∧ ∀ s, s < 16 → lf s = nI (fcN (ls s))
def sFs (S : Nat) : List Value := [.ref (S + 1), .ref (S + 6), .ref (S + 15), .ref (S + 19), .ref (S + 24), .ref (S + 25), .ref (S + 26), .ref (S + 27), .ref (S + 28)]
def dfr (q S : Nat) (h h2 : HP) : Prop := ∀ x, (x < q ∨ q + 5 ≤ x) → x ≠ S + 28 → h2 x = h x
theorem dfr.rf {q S : Nat} {h : HP} : dfr q S h h := fun _ _ _ => rfl
theorem dfr.tr {q S : Nat} {h h2 h3 : HP} (a : dfr q S h h2) (b : dfr q S h2 h3) : dfr q S h h3 := fun x k1 k2 => (b x k1 k2).trans (a x k1 k2)
theorem dfr.of {q S : Nat} {h h2 : HP} (a : frm q 5 h h2) : dfr q S h h2 := fun x k1 _ => a x k1
section DC
variable {sc : ipSc} {d z q S pc : Nat} {h : HP} {st : DS}
theorem t_spotOf (H : h S = some (.inr (7, sFs S))) (HL : lsA h (S + 28) st.2) (HB : pbIs h q 1 pc st.1) (hI : dcI 30 st) (hd : S + 29 ≤ q) {s : Nat} (hs : s < 16) : ipC sc (d + 2) 72 [.ref S, .int (nI s), .ref q] h z 0 0 (fun o h2 z2 => o = some (.int (nI (dcSpot st s).1)) ∧ z2 = z ∧ dfr q S h h2 ∧ lsA h2 (S + 28) (dcSpot st s).2.2 ∧ pbIs h2 q 1 pc ((dcSpot st s).2.1, st.1.2.1, st.1.2.2.1, st.1.2.2.2)) := by
  obtain ⟨lf, l1, l2⟩ := id HL
  obtain ⟨h1, h2, h3, h4, h5, h6, h7, h8⟩ := id hI
  have hob := HB.ob
  refine ipC_mk [some (.ref S), some (.int (nI s)), some (.ref q), none] rfl (Nat.le_of_ble_eq_true rfl) ?_
  have new : (if 4 ≤ s then st.2 s else none) = none → ip sc (ipC sc (d + 1)) 72 0 0 (fun o h2 z2 => o = some (.int (nI (dcSpot st s).1)) ∧ z2 = z ∧ dfr q S h h2 ∧ lsA h2 (S + 28) (dcSpot st s).2.2 ∧ pbIs h2 q 1 pc ((dcSpot st s).2.1, st.1.2.1, st.1.2.2.1, st.1.2.2.2)) 22 [some (.ref S), some (.int (nI s)), some (.ref q), none] [] h z 0 0 := fun e => by
    have ed : dcSpot st s = (st.1.1.length, st.1.1 ++ [dcLife s], fun x => if x = s then some st.1.1.length else st.2 x) := by unfold dcSpot; rw [e]
    rw [ed]
    have H2 : pbIs (hup h (S + 28) (.inl (0, 16, .inl (upd lf s (nI st.1.1.length))))) q 1 pc (st.1.1, st.1.2.1, st.1.2.2.1, st.1.2.2.2) := HB.off fun x k1 k2 => hup_ne (by omega) rfl
    have fin : ∀ (n : Nat), n = dcLife s → ∀ o0 o1 o2, ip sc (ipC sc (d + 1)) 72 0 0 (fun o h2 z2 => o = some (.int (nI st.1.1.length)) ∧ z2 = z ∧ dfr q S h h2 ∧ lsA h2 (S + 28) (fun x => if x = s then some st.1.1.length else st.2 x) ∧ pbIs h2 q 1 pc (st.1.1 ++ [dcLife s], st.1.2.1, st.1.2.2.1, st.1.2.2.2)) 54 [o0, o1, o2, some (.int (nI st.1.1.length))] [.int (nI n), .ref q] (hup h (S + 28) (.inl (0, 16, .inl (upd lf s (nI st.1.1.length))))) z 0 0 := by
      intro n hn o0 o1 o2
      refine c72_54 H2.ob (Nat.zero_le _) (Nat.zero_le _) (t_addSpot H2 n (by omega)) (kB fun h5 hf5 H5 => c72_57 ⟨rfl, rfl, ?_, ?_, ?_⟩)
      · intro x k1 k2
        rw [hf5 x k1]
        exact hup_ne k2 rfl
      · refine ⟨upd lf s (nI st.1.1.length), ?_, fun x hx => ?_⟩
        · rw [hf5 _ (by omega)]
          exact hup_eq
        · show _ = nI (fcN (if x = s then some st.1.1.length else st.2 x))
          by_cases e : x = s
          · rw [if_pos e, e, pk_us]
            rfl
          · rw [pk_un e, if_neg e]
            exact l2 x hx
      · rw [← hn]
        exact H5
    refine c72_22 (v_fs1_8 := st.1.1.length) hob rfl H rfl l1 hs (by decide) rfl (by omega) (fun e1 => ?_) (fun e1 => ?_)
    · refine c72_44 (by omega) (fun e2 => c72_53 (fin 1 ?_ _ _ _)) (fun e2 => c72_49 (fin 2 ?_ _ _ _))
      · unfold dcLife; rw [if_neg e1, if_neg e2]
      · unfold dcLife; rw [if_neg e1, if_pos (Decidable.not_not.mp e2)]
    · refine c72_40 (fin 3 ?_ _ _ _)
      unfold dcLife
      rw [if_pos (Decidable.not_not.mp e1)]
  refine c72_0 (by omega) (fun r => new (if_neg (by omega))) (fun r => ?_)
  refine c72_5 H rfl l1 hs (by decide) (l2 s hs) (fun e => new ?_) (fun e => ?_)
  · rw [if_pos (by omega)]
    cases e2 : st.2 s with
    | none => rfl
    | some a =>
      rw [e2] at e
      have := h8 s a e2
      have k : nI a < nI 0 := by
        have e : nI a = -1 := e
        rw [e]; decide
      rw [nI_ltI (by omega) (by omega)] at k
      omega
  · cases e2 : st.2 s with
    | none =>
      rw [e2] at e
      exact absurd fcN_neg e
    | some a =>
      have ed : dcSpot st s = (a, st.1.1, st.2) := by unfold dcSpot; rw [if_pos (by omega), e2]
      rw [ed]
      refine c72_15 (v9 := a) H rfl l1 hs (by decide) (by rw [l2 s hs, e2]; rfl) ⟨rfl, rfl, dfr.rf, HL, HB⟩
def dcQ (h : HP) (z q S pc : Nat) (st : DS) : ipQ := fun o h2 z2 => o = none ∧ z2 = z ∧ dfr q S h h2 ∧ lsA h2 (S + 28) st.2 ∧ pbIs h2 q 1 pc st.1
set_option maxHeartbeats 1000000 in
theorem t_decodeCorners (H : h S = some (.inr (7, sFs S))) (HL : lsA h (S + 28) st.2) (HB : pbIs h q 1 pc st.1) {k0 : Nat} (hI : dcI k0 st) (hk : k0 ≤ 10) (hd : S + 29 ≤ q) {N : Nat} (hN : N < 2 ^ 60) : ipC sc (d + 3) 71 [.ref S, .long (lN N), .ref q] h z 0 0 (dcQ h z q S pc ((cds 10 N).foldl dcStep st)) := by
  refine ipC_mk [some (.ref S), some (.long (lN N)), none, some (.ref q), none, none, none, none, none] rfl (Nat.le_of_ble_eq_true rfl) (c71_0 rfl ?_)
  generalize hQ : dcQ h z q S pc ((cds 10 N).foldl dcStep st) = Q0
  have loop : ∀ (m k M : Nat) (st2 : DS) (h3 : HP) (o1 o2 o7 o8 : Option Value), k + m = 10 → M < 2 ^ 60 → dcI (k0 + k) st2 → dfr q S h h3 → lsA h3 (S + 28) st2.2 → pbIs h3 q 1 pc st2.1 → (cds m M).foldl dcStep st2 = (cds 10 N).foldl dcStep st → ip sc (ipC sc (d + 2)) 71 0 0 Q0 6 [some (.ref S), o1, o2, some (.ref q), some (.long (lN M)), none, some (.int (nI k)), o7, o8] [] h3 z 0 0 := by
    intro m
    induction m with
    | zero =>
      intro k M st2 h3 o1 o2 o7 o8 hk2 hM hI2 hf3 HL3 HB3 hE
      refine c71_6 (by omega) (fun _ => c71_80 ?_) (fun r => absurd (by omega) r)
      rw [← hQ, ← hE]
      exact ⟨rfl, rfl, hf3, HL3, HB3⟩
    | succ m ih =>
      intro k M st2 h3 o1 o2 o7 o8 hk2 hM hI2 hf3 HL3 HB3 hE
      have H3 : h3 S = some (.inr (7, sFs S)) := by rw [hf3 S (by omega) (by omega)]; exact H
      refine c71_6 (by omega) (fun r => absurd r (by omega)) (fun _ => ?_)
      refine c71_13 (fun e => c71_80 ?_) (fun e => ?_)
      · have e := (l_zero (by omega)).mp e
        subst e
        have : cds (m + 1) 0 = [] := by unfold cds; rw [if_pos rfl]
        rw [this] at hE
        rw [← hQ, ← hE]
        exact ⟨rfl, rfl, hf3, HL3, HB3⟩
      · have e : M ≠ 0 := fun q => e ((l_zero (by omega)).mpr q)
        have ec : cds (m + 1) M = M % 64 :: cds m (M / 64) := by
          show (if M = 0 then [] else _) = _
          rw [if_neg e]
        rw [ec, List.foldl_cons] at hE
        have hs16 : M / 4 % 16 < 16 := Nat.mod_lt _ (by decide)
        have he4 : M % 4 < 4 := Nat.mod_lt _ (by decide)
        have es : M % 64 / 4 % 16 = M / 4 % 16 := by omega
        have ee : M % 64 % 4 = M % 4 := by omega
        have hI30 : dcI 30 st2 := by
          obtain ⟨j1, j2, j3, j4, j5⟩ := hI2
          exact ⟨by omega, by omega, by omega, by omega, j5⟩
        refine c71_20 H3 (Nat.zero_le _) (Nat.zero_le _) (by rw [l_sign (by omega)]; exact t_spotOf H3 HL3 HB3 hI30 hd hs16) ?_
        rw [l_sign (by omega), l_end]
        rintro o h4 z4 ⟨rfl, rfl, hf4, HL4, HB4⟩
        obtain ⟨q1, q2, q3, q4, q5⟩ := dcSpot_I (s := M / 4 % 16) hI2
        have hst := dcI_step hI2 (M % 64)
        have hfold : dcStep st2 (M % 64) = (dcEnd ((dcSpot st2 (M / 4 % 16)).2.1, st2.1.2.1, st2.1.2.2.1, pPut 1 (dcSpot st2 (M / 4 % 16)).2.1 st2.1.2.2.2 (dcSpot st2 (M / 4 % 16)).1) (M % 4), (dcSpot st2 (M / 4 % 16)).2.2) := by
          unfold dcStep
          rw [es, ee]
        rw [hfold] at hst hE
        obtain ⟨j1, j2, j3, j4, j5, j6, j7, j8⟩ := hI2
        generalize dcSpot st2 (M / 4 % 16) = r at HL4 HB4 q1 q2 q3 q4 q5 hst hE
        obtain ⟨a, lv, ls⟩ := r
        obtain ⟨⟨lv0, F, X, C⟩, ls0⟩ := st2
        simp only at HL4 HB4 q1 q2 q3 q4 q5 hst hE j1 j2 j3 j4 j5 j6 j7 j8
        have hCl : ∀ c ∈ C, c < lv.length := fun c hc => by have := j6 c hc; omega
        have hXl : ∀ c ∈ X.flatten, c < lv.length := fun c hc => by have := j7 c hc; omega
        have hl3 : lv.getD a 0 ≤ 3 := q3 _ (List.mem_of_getElem? (gD (d := 0) q1))
        have hbc : (bC (lv, F, X, C)).length = (bC (lv0, F, X, C)).length := rfl
        have hbw : (bW (lv, F, X, C)).length = (bW (lv0, F, X, C)).length := rfl
        -- behind the corner
        have nxt : ∀ (h5 : HP) (o7 o8 : Option Value), frm q 5 h4 h5 → pbIs h5 q 1 pc (dcEnd (lv, F, X, pPut 1 lv C a) (M % 4)) → ip sc (ipC sc (d + 2)) 71 0 0 Q0 67 [some (.ref S), o1, o2, some (.ref q), some (.long (lN M)), none, some (.int (nI k)), o7, o8] [] h5 z4 0 0 := fun h5 o7 o8 hf5 HB5 => by
          refine c71_67 rfl ?_
          rw [l_u6 (by omega)]
          refine ih (k + 1) (M / 64) _ h5 o1 o2 o7 o8 (by omega) (by omega) hst ((hf3.tr hf4).tr (.of hf5)) ?_ HB5 hE
          obtain ⟨lf, l1, l2⟩ := HL4
          exact ⟨lf, by rw [hf5 _ (by omega)]; exact l1, l2⟩
        refine c71_45 HB4.ob (Nat.zero_le _) (Nat.zero_le _) (t_put HB4 (gD (d := 0) q1) hl3 hCl (by rw [hbc]; omega)) (kB fun h5 hf5 HB5 => ?_)
        have hC5 : ∀ c ∈ pPut 1 lv C a, c < lv.length := fun c hc => by
          rcases dcP_mem hc with hc | hc
          · exact hCl c hc
          · omega
        by_cases e0 : M % 4 = 0
        · refine c71_48 (by omega) (fun _ => ?_) (fun r => absurd e0 r)
          refine c71_57 (by omega) (fun _ => nxt h5 _ _ hf5 ?_) (fun r => absurd (by omega) r)
          unfold dcEnd
          rw [if_pos e0]
          exact HB5
        · refine c71_48 (by omega) (fun r => absurd r e0) (fun _ => ?_)
          have hpw : (bW (lv, F, X, pPut 1 lv C a)).length = (bW (lv0, F, X, C)).length := rfl
          refine c71_53 HB5.ob (Nat.zero_le _) (Nat.zero_le _) (t_closeWall HB5 hC5 (by rw [hpw]; omega)) (kB fun h6 hf6 HB6 => ?_)
          by_cases e2 : M % 4 = 2
          · refine c71_57 (by omega) (fun r => absurd e2 r) (fun _ => ?_)
            refine c71_63 HB6.ob (Nat.zero_le _) (Nat.zero_le _) (t_closeField HB6 (fun c hc => ?_) q3 (by omega)) (kB fun h7 hf7 HB7 => nxt h7 _ _ ((hf5.tr hf6).tr hf7) ?_)
            · rcases dcW_mem hc with hc | hc
              · exact hXl c hc
              · exact hC5 c hc
            · unfold dcEnd
              rw [if_neg e0, if_pos e2]
              exact HB7
          · refine c71_57 (by omega) (fun _ => nxt h6 _ _ (hf5.tr hf6) ?_) (fun r => absurd e2 r)
            unfold dcEnd
            rw [if_neg e0, if_neg e2]
            exact HB6
  exact loop 10 0 N st h _ _ _ _ (by omega) hN hI dfr.rf HL HB rfl
/-- a key of two longs, as its codes -/
def keyC (N1 N2 : Nat) : List Nat := cds 10 N1 ++ cds 10 N2
theorem cds_len : ∀ {n N : Nat}, (cds n N).length ≤ n
  | 0, _ => Nat.le_refl _
  | n + 1, N => by
    unfold cds
    split
    · exact Nat.zero_le _
    · rw [List.length_cons]
      have := cds_len (n := n) (N := N / 64)
      omega
theorem dcI_fold : ∀ {l : List Nat} {k : Nat} {st : DS}, dcI k st → dcI (k + l.length) (l.foldl dcStep st)
  | [], k, st, h => h
  | c :: l, k, st, h => by
    have := dcI_fold (l := l) (dcI_step h c)
    rw [List.length_cons, show k + (l.length + 1) = k + 1 + l.length by omega]
    exact this
theorem dcI_0 : dcI 0 (([], [], [], []), fun _ => none) := ⟨Nat.le_refl _, Nat.le_refl _, Nat.le_refl _, Nat.le_refl _, fun _ h => (by cases h), fun _ h => (by cases h), fun _ h => (by cases h), fun _ _ h => (by cases h)⟩
theorem t_decode (H : h S = some (.inr (7, sFs S))) {lf : Nat → Int32} (HL : h (S + 28) = some (.inl (0, 16, .inl lf))) {B : PB} (HB : pbIs h q 1 pc B) (hd : S + 29 ≤ q) {N1 N2 : Nat} (h1 : N1 < 2 ^ 60) (h2 : N2 < 2 ^ 60) : ipC sc (d + 4) 70 [.ref S, .long (lN N1), .long (lN N2), .ref q] h z 0 0 (fun o h2 z2 => o = none ∧ z2 = z ∧ dfr q S h h2 ∧ (∃ lf, h2 (S + 28) = some (.inl (0, 16, .inl lf))) ∧ pbIs h2 q 1 0 (dcd (keyC N1 N2))) := by
  refine ipC_mk [some (.ref S), some (.long (lN N1)), none, some (.long (lN N2)), none, some (.ref q), none] rfl (Nat.le_of_ble_eq_true rfl) ?_
  refine c70_0 HB.ob (Nat.zero_le _) (Nat.zero_le _) (t_pclear HB) ?_
  rintro o h3 z3 ⟨rfl, rfl, hf3, sa, wf, ff, lf3, hps, w0, f0⟩
  have HB3 : pbIs h3 q 1 0 ([], [], [], []) := by
    refine ⟨Nat.le_refl _, sa, wf, ff, lf3, hps, rowL_nil, rowL_nil, fun k hk => ?_, fun k hk => ?_, by decide, by decide, by decide, by decide⟩
    · have : k = 0 := Nat.le_zero.mp hk
      subst this
      exact w0
    · have : k = 0 := Nat.le_zero.mp hk
      subst this
      exact f0
  have H3 : h3 S = some (.inr (7, sFs S)) := by rw [hf3 S (by omega)]; exact H
  refine c70_5 ?_
  have loop : ∀ (m k : Nat) (lf : Nat → Int32) (h4 : HP), k + m = 16 → dfr q S h h4 → h4 (S + 28) = some (.inl (0, 16, .inl lf)) → (∀ x, x < k → lf x = -1) → h4 S = some (.inr (7, sFs S)) → pbIs h4 q 1 0 ([], [], [], []) → ip sc (ipC sc (d + 3)) 70 0 0 (fun o h2 z2 => o = none ∧ z2 = z3 ∧ dfr q S h h2 ∧ (∃ lf, h2 (S + 28) = some (.inl (0, 16, .inl lf))) ∧ pbIs h2 q 1 0 (dcd (keyC N1 N2))) 8 [some (.ref S), some (.long (lN N1)), none, some (.long (lN N2)), none, some (.ref q), some (.int (nI k))] [] h4 z3 0 0 := by
    intro m
    induction m with
    | zero =>
      intro k lf h4 hk hf4 HL4 hl H4 HB4
      refine c70_8 H4 rfl HL4 (by omega) (by decide) (fun _ => ?_) (fun r => absurd (by omega) r)
      have HLs : lsA h4 (S + 28) (((([], [], [], []), fun _ => none) : DS).2) := ⟨lf, HL4, fun s hs => by rw [hl s (by omega)]; exact fcN_neg.symm⟩
      refine c70_32 H4 (Nat.zero_le _) (Nat.zero_le _) (t_decodeCorners (st := (([], [], [], []), fun _ => none)) H4 HLs HB4 dcI_0 (by omega) hd h1) ?_
      rintro o h5 z5 ⟨rfl, rfl, hf5, HL5, HB5⟩
      have H5 : h5 S = some (.inr (7, sFs S)) := by rw [hf5 S (by omega) (by omega)]; exact H4
      have hI := dcI_fold (l := cds 10 N1) dcI_0
      have hcl := cds_len (n := 10) (N := N1)
      refine c70_39 H5 (Nat.zero_le _) (Nat.zero_le _) (t_decodeCorners H5 HL5 HB5 hI (by omega) hd h2) ?_
      rintro o h6 z6 ⟨rfl, rfl, hf6, ⟨lf6, l6, -⟩, HB6⟩
      refine c70_46 ⟨rfl, rfl, (hf4.tr hf5).tr hf6, ⟨lf6, l6⟩, ?_⟩
      unfold dcd keyC
      rw [List.foldl_append]
      exact HB6
    | succ m ih =>
      intro k lf h4 hk hf4 HL4 hl H4 HB4
      refine c70_8 H4 rfl HL4 (by omega) (by decide) (fun r => absurd r (by omega)) (fun _ => ?_)
      refine c70_18 H4 rfl HL4 (by omega) (by decide) rfl (ih (k + 1) _ _ (by omega) (fun x k1 k2 => ?_) hup_eq (fun x hx => ?_) (hup_ne (by omega) H4) (HB4.off fun x k1 k2 => hup_ne (by omega) rfl))
      · exact hup_ne k2 (hf4 x k1 k2)
      · by_cases e : x = k
        · rw [e, pk_us]
        · rw [pk_un e]
          exact hl x (by omega)
  exact loop 16 0 lf h3 (by omega) (.of hf3) (by rw [hf3 _ (by omega)]; exact HL) (fun x hx => absurd hx (Nat.not_lt_zero _)) H3 HB3
end DC
