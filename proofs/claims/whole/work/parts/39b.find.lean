/-! the k-th move, found -/
/-- a Move stands ahead of the pairs L -/
def wk (P : PosT) (h : HP) (m : Nat) (L : List Cur) (xs : Int32) : Prop := ∃ f u i v j xj, xj + 1 = nI j ∧ f ≤ 1000 ∧ u ≤ 1000 ∧ i ≤ 1000 ∧ v ≤ 1000 ∧ j ≤ 1000 ∧ (fl P f ≤ u → i = 0 ∧ j = 0) ∧ h m = some (.inr (2, [.int (nI f), .int (nI u), .int (nI i), .int (nI v), .int xj, .int xs])) ∧ prs P (f, u, i, v, j) = L
theorem wk_at {P : PosT} {h : HP} {m : Nat} {t : Cur} {xs : Int32} (hs : sm P) (ht : isTh P t = true) (hm : h m = some (.inr (2, [.int (nI t.1), .int (nI t.2.1), .int (nI t.2.2.1), .int (nI t.2.2.2.1), .int (nI t.2.2.2.2), .int xs]))) : wk P h m (prs P (curN t)) xs := by
  obtain ⟨f, u, i, v, j⟩ := t
  obtain ⟨t1, t2, t3, t4, t5⟩ := of_decide_eq_true ht
  simp only at t1 t2 t3 t4 t5
  have q1 := hs.1
  have q2 := hs.2.1 f
  have q3 := hs.2.2 f u
  have q4 := hs.2.2 f v
  exact ⟨f, u, i, v, j + 1, nI j, nI_1 j, by omega, by omega, by omega, by omega, by omega, fun r => absurd t2 (by omega), hm, rfl⟩
section POS
variable {sc : ipSc} {d z b le pc m : Nat} {h : HP} {P : PosT} {xs : Int32}
theorem t_rewind {x1 x2 x3 x4 x5 x6 : Int32} (hm : h m = some (.inr (2, [.int x1, .int x2, .int x3, .int x4, .int x5, .int x6]))) : ipC sc (d + 1) 11 [.ref m] h z 0 0 (fun o h2 z2 => o = none ∧ z2 = z ∧ h2 = hup h m (.inr (2, [.int (nI 0), .int (nI 0), .int (nI 0), .int (nI 0), .int (-1), .int (nI 0)]))) := by
  refine ipC_mk [some (.ref m)] rfl (Nat.le_of_ble_eq_true rfl) ?_
  exact c11_0 hm rfl ⟨rfl, rfl, rfl⟩
theorem wk_rewind {P : PosT} : wk P (hup h m (.inr (2, [.int (nI 0), .int (nI 0), .int (nI 0), .int (nI 0), .int (-1), .int (nI 0)]))) m (prs P cur0) (nI 0) := ⟨0, 0, 0, 0, 0, -1, by decide, by omega, by omega, by omega, by omega, by omega, fun _ => ⟨rfl, rfl⟩, hup_eq, rfl⟩
theorem t_nextPair2 {L : List Cur} (H : plIs h b le pc P) (hok : posOK P) (hmd : m < b ∨ b + 5 ≤ m) (W : wk P h m L xs) : ipC sc (d + 4) 46 [.ref b, .ref m] h z 0 0 (fun o h2 z2 => z2 = z ∧ ∃ t2, h2 = mM h m t2 xs ∧ ((o = some (.int (nI 0)) ∧ L = []) ∨ (o = some (.int (nI 1)) ∧ isTh P t2 = true ∧ canT P t2 = true ∧ L = t2 :: prs P (curN t2)))) := by
  obtain ⟨f, u, i, v, j, xj, w1, w2, w3, w4, w5, w6, w7, w8, w9⟩ := W
  exact t_nextPair H hok hmd _ w1 w2 w3 w4 w5 w6 w7 w8 (fun e t2 => ⟨rfl, t2, rfl, Or.inl ⟨rfl, w9.symm.trans e⟩⟩) (fun t2 e1 e2 e3 => ⟨rfl, t2, rfl, Or.inr ⟨rfl, e1, e2, w9.symm.trans e3⟩⟩)
/-- a Move's number w, as the document tells it -/
def prt (x1 x2 x3 x4 x5 x6 w : Int32) : Int32 := if w = nI 0 then x1 else if w = nI 1 then x2 else if w = nI 2 then x3 else if w = nI 3 then x4 else if w = nI 4 then x5 else if w = nI 5 then x6 else -1
theorem t_part {x1 x2 x3 x4 x5 x6 : Int32} (hm : h m = some (.inr (2, [.int x1, .int x2, .int x3, .int x4, .int x5, .int x6]))) (w : Int32) : ipC sc (d + 1) 13 [.ref m, .int w] h z 0 0 (qI (prt x1 x2 x3 x4 x5 x6 w) h z) := by
  refine ipC_mk [some (.ref m), some (.int w)] rfl (Nat.le_of_ble_eq_true rfl) ?_
  by_cases e : isN w 6
  · obtain ⟨k, hk, rfl⟩ := e
    match k, hk with
    | 0, _ => exact b13_0 (tgt := 40) (by decide) (b13_40 hm rfl ⟨rfl, rfl, rfl⟩)
    | 1, _ => exact b13_0 (tgt := 45) (by decide) (b13_45 hm rfl ⟨rfl, rfl, rfl⟩)
    | 2, _ => exact b13_0 (tgt := 50) (by decide) (b13_50 hm rfl ⟨rfl, rfl, rfl⟩)
    | 3, _ => exact b13_0 (tgt := 55) (by decide) (b13_55 hm rfl ⟨rfl, rfl, rfl⟩)
    | 4, _ => exact b13_0 (tgt := 60) (by decide) (b13_60 hm rfl ⟨rfl, rfl, rfl⟩)
    | 5, _ => exact b13_0 (tgt := 65) (by decide) (b13_65 hm rfl ⟨rfl, rfl, rfl⟩)
    | n + 6, h => exact absurd h (by omega)
  · have hn : ∀ k, k < 6 → ¬ w = nI k := fun k hk q => e ⟨k, hk, q⟩
    refine b13_0 (tgt := 70) ?_ (b13_70 ?_)
    · have h1 : w.toInt < 0 ∨ 5 < w.toInt := by
        by_cases h0 : w < 0
        · left
          exact Int32.lt_iff_toInt_lt.mp h0
        · right
          obtain ⟨j, hj, rfl⟩ := nI_of h0
          rw [nI_toInt hj]
          have : ¬ j < 6 := fun q => hn j q rfl
          omega
      unfold ipTab
      rw [if_pos h1]
      rfl
    · unfold prt
      rw [if_neg (hn 0 (by omega)), if_neg (hn 1 (by omega)), if_neg (hn 2 (by omega)), if_neg (hn 3 (by omega)), if_neg (hn 4 (by omega)), if_neg (hn 5 (by omega))]
      exact ⟨rfl, rfl, rfl⟩
theorem t_mtake {q : Nat} {x1 x2 x3 x4 x5 x6 y1 y2 y3 y4 y5 y6 : Int32} (hq : h q = some (.inr (2, [.int x1, .int x2, .int x3, .int x4, .int x5, .int x6]))) (hm : h m = some (.inr (2, [.int y1, .int y2, .int y3, .int y4, .int y5, .int y6]))) (hne : q ≠ m) : ipC sc (d + 1) 12 [.ref m, .ref q] h z 0 0 (fun o h2 z2 => o = none ∧ z2 = z ∧ h2 = hup h m (.inr (2, [.int x1, .int x2, .int x3, .int x4, .int x5, .int x6]))) := by
  refine ipC_mk [some (.ref m), some (.ref q)] rfl (Nat.le_of_ble_eq_true rfl) ?_
  refine b12_0 hq rfl hm rfl hne rfl rfl rfl rfl rfl ⟨rfl, rfl, ?_⟩
  rw [hup_hup, hup_hup, hup_hup, hup_hup, hup_hup]
  rfl
set_option maxRecDepth 100000 in
theorem t_pfind (H : plIs h b le pc P) (hok : posOK P) (hw : wB P) (hmd : m < b ∨ b + 5 ≤ m) {x1 x2 x3 x4 x5 x6 : Int32} (hm : h m = some (.inr (2, [.int x1, .int x2, .int x3, .int x4, .int x5, .int x6]))) (x : Int32) : ipC sc (d + 5) 48 [.ref b, .int x, .ref m] h z 0 0 (fun o h2 z2 => z2 = z ∧ ((o = some (.int (nI 0)) ∧ (∀ k, x = nI k → k < 2147483648 → (mvs P)[k]? = none) ∧ ∃ y1 y2 y3 y4 y5 y6, h2 = hup h m (.inr (2, [.int y1, .int y2, .int y3, .int y4, .int y5, .int y6]))) ∨ (o = some (.int (nI 1)) ∧ ∃ k t s, k < 2147483648 ∧ x = nI k ∧ (mvs P)[k]? = some (t, s) ∧ h2 = mM h m t (nI s)))) := by
  have hs := H.sm
  have hHm : ∀ e : hE, plIs (hup h m e) b le pc P := fun e => H.off fun y h1 h2 => hup_ne (by omega) rfl
  refine ipC_mk [some (.ref b), some (.int x), some (.ref m), none, none, none] rfl (Nat.le_of_ble_eq_true rfl) ?_
  refine b48_0 (fun r => ?_) (fun r => b48_4 ⟨rfl, Or.inl ⟨rfl, ?_, x1, x2, x3, x4, x5, x6, ?_⟩⟩)
  · obtain ⟨k, hk, rfl⟩ := nI_of (x := x) (fun q => by
      have h1 := Int32.lt_iff_toInt_lt.mp q
      have h2 := Int32.le_iff_toInt_le.mp r
      omega)
    refine b48_6 hm (Nat.zero_le _) (Nat.zero_le _) (t_rewind hm) ?_
    rintro o h2 z2 ⟨rfl, ez, rfl⟩
    obtain rfl := ez.symm
    refine c48_12 ?_
    have hnp : (prs P cur0).length ≤ 10000 := by
      have h1 := prs_len (P := P)
      have h2 : (pC P).length ≤ 100 := by
        obtain ⟨-, sa, wf, ff, lf, -, -, -, -, -, o1, -⟩ := H
        rw [bC_c] at o1
        exact o1
      exact Nat.le_trans h1 (Nat.mul_le_mul h2 h2)
    have loop : ∀ (n : Nat) (L : List Cur) (left step : Nat) (h2 : HP) (o5 : Option Value) (e : hE), L.length ≤ n → step + L.length ≤ 10000 → left < 2147483648 → (mvs P)[k]? = (mvp P L)[left]? → h2 = hup h m e → wk P h2 m L (nI 0) → ip sc (ipC sc (d + 4)) 48 0 0 (fun o h2 z2 => z2 = z ∧ ((o = some (.int (nI 0)) ∧ (∀ k2, nI k = nI k2 → k2 < 2147483648 → (mvs P)[k2]? = none) ∧ ∃ y1 y2 y3 y4 y5 y6, h2 = hup h m (.inr (2, [.int y1, .int y2, .int y3, .int y4, .int y5, .int y6]))) ∨ (o = some (.int (nI 1)) ∧ ∃ k2 t s, k2 < 2147483648 ∧ nI k = nI k2 ∧ (mvs P)[k2]? = some (t, s) ∧ h2 = mM h m t (nI s)))) 15 [some (.ref b), some (.int (nI k)), some (.ref m), some (.int (nI left)), some (.int (nI step)), o5] [] h2 z 0 0 := by
      intro n
      induction n with
      | zero =>
        intro L left step h2 o5 e hn hst hl hk2 he W
        have : L = [] := List.length_eq_zero_iff.mp (by omega)
        subst this
        subst he
        refine c48_15 (by omega) (fun r => absurd r (by simp only [List.length_nil] at hst; omega)) (fun _ => ?_)
        refine c48_22 (hHm e).ob (Nat.zero_le _) (Nat.zero_le _) (t_nextPair2 (hHm e) hok hmd W) ?_
        rintro o h3 z3 ⟨ez, t2, rfl, ⟨rfl, -⟩ | ⟨-, -, -, e3⟩⟩ <;> obtain rfl := ez.symm
        · refine c48_27 (sa_0 := 0) (by decide) (fun _ => c48_61 ⟨rfl, Or.inl ⟨rfl, fun k2 q1 q2 => ?_, _, _, _, _, _, _, hup_hup⟩⟩) (fun r => absurd rfl r)
          have := nI_inj q1 (by omega) q2
          subst this
          rw [hk2]
          rfl
        · cases e3
      | succ n ih =>
        intro L left step h2 o5 e hn hst hl hk2 he W
        subst he
        refine c48_15 (by omega) (fun r => absurd r (by omega)) (fun _ => ?_)
        refine c48_22 (hHm e).ob (Nat.zero_le _) (Nat.zero_le _) (t_nextPair2 (hHm e) hok hmd W) ?_
        rintro o h3 z3 ⟨ez, t2, rfl, ⟨rfl, e3⟩ | ⟨rfl, e1, e2, e3⟩⟩ <;> obtain rfl := ez.symm
        · refine c48_27 (sa_0 := 0) (by decide) (fun _ => c48_61 ⟨rfl, Or.inl ⟨rfl, fun k2 q1 q2 => ?_, _, _, _, _, _, _, hup_hup⟩⟩) (fun r => absurd rfl r)
          have := nI_inj q1 (by omega) q2
          subst this
          rw [hk2, e3]
          rfl
        · refine c48_27 (sa_0 := 1) (by decide) (fun r => absurd r (by decide)) (fun _ => ?_)
          obtain ⟨f, u, i, v, j⟩ := t2
          obtain ⟨t1, t2, t3, t4, t5⟩ := of_decide_eq_true e1
          have hsl := sides_lt (t := (f, u, i, v, j)) hw
          have eh : mM (hup h m e) m (f, u, i, v, j) (nI 0) = mM h m (f, u, i, v, j) (nI 0) := hup_hup
          rw [eh]
          refine c48_30 (hHm _).ob (Nat.zero_le _) (Nat.zero_le _) (t_sides (i := i) (j := j) (hHm _) hw mM_eq t1 t2 t4) (kI ?_)
          subst e3
          rw [mvp_cons] at hk2
          simp only [List.length_cons] at hn hst
          refine c48_35 (by omega) (by omega) (fun r => c48_50 r ?_) (fun r => c48_43 mM_eq rfl ⟨rfl, Or.inr ⟨rfl, k, (f, u, i, v, j), left, hk, rfl, ?_, hup_hup⟩⟩)
          · rw [List.getElem?_append_right (by rw [sdL_len]; exact r), sdL_len] at hk2
            exact ih _ _ _ _ _ _ (by omega) (by omega) (by omega) hk2 rfl (wk_at hs e1 mM_eq)
          · rw [hk2, List.getElem?_append_left (by rw [sdL_len]; omega), sdL_at (by omega)]
    refine loop (prs P cur0).length (prs P cur0) k 0 _ _ _ (Nat.le_refl _) (by omega) hk ?_ rfl wk_rewind
    rw [mvs_prs]
  · intro k e hk
    subst e
    exact absurd (nI_pos' (n := k) (by omega)) r
  · funext y
    unfold hup
    by_cases e : y = m
    · rw [if_pos e, e, hm]
    · rw [if_neg e]
end POS
