/-! the class's join, moves, move, tell, undo, made, again -/
section CLS
variable {sc : ipSc} {d z T : Nat} {h : HP} {A : Ab} {sol : Option Nat}
theorem mvV_x {x1 x2 x3 x4 x5 x6 : Int32} : mvV (xMv x1 x2 x3 x4 x5 x6) = [.int x1, .int x2, .int x3, .int x4, .int x5, .int x6] := by
  unfold mvV xMv vFs
  simp only [nI_uI]
set_option maxHeartbeats 1000000 in
theorem c_join (H : cls h z T A sol) (ok : abOK A) (x1 x2 x3 x4 x5 x6 : Int32) : ipC sc (d + 27) 80 [.ref T, .int x1, .int x2, .int x3, .int x4, .int x5, .int x6] h z 0 0 (cQ h T z (aJoin A x1 x2 x3 x4 x5 x6).1 (aJoin A x1 x2 x3 x4 x5 x6).2 sol) := by
  obtain ⟨im, c1, c2, c3, c4, -⟩ := id H
  have ht := ok.1.t23
  have iv := ok.1.iv (Nat.le_refl _)
  refine ipC_mk [some (.ref T), some (.int x1), some (.int x2), some (.int x3), some (.int x4), some (.int x5), some (.int x6)] rfl (Nat.le_of_ble_eq_true rfl) ?_
  obtain ⟨y1, y2, y3, y4, y5, y6, e4⟩ := c4
  obtain ⟨h1, hh1⟩ : ∃ h1, h1 = hup h (T + 149) (.inr (2, [.int x1, .int x2, .int x3, .int x4, .int x5, .int x6])) := ⟨_, rfl⟩
  have he1 : ∀ x, x ≠ T + 149 → h1 x = h x := fun x q => by rw [hh1]; exact hup_ne q rfl
  have c1' : h1 T = some (.inr (8, tFs T sol)) := (he1 _ (by omega)).trans c1
  have c2' : gmIs h1 (T + 1) A.1.1 A.1.2.1 A.1.2.2 := c2.of ht fun x q1 q2 => he1 x (by omega)
  have hm : h1 (T + 149) = some (.inr (2, [.int x1, .int x2, .int x3, .int x4, .int x5, .int x6])) := by rw [hh1]; exact hup_eq
  have hq : plIs h1 (T + 1 + 27 + 5 * A.1.2.1) 0 _ (aP A) := c2'.2.2.2.2 _ (Nat.le_refl _)
  have nw : ipC sc (d + 26) 1 [.ref (T + 1)] h1 z 0 0 (qR (T + 1 + 27 + 5 * A.1.2.1) h1 z) := t_gnow (d := d + 25) c2' ht
  have K : ip sc (ipC sc (d + 26)) 80 0 0 (cQ h T z (aJoin A x1 x2 x3 x4 x5 x6).1 (aJoin A x1 x2 x3 x4 x5 x6).2 sol) 58 [some (.ref T), some (.int x1), some (.int x2), some (.int x3), some (.int x4), some (.int x5), some (.int x6)] [.ref (T + 1 + 27 + 5 * A.1.2.1)] h1 z 0 0 := by
    refine b80_58 c1' rfl hq.ob2 (Nat.zero_le _) (Nat.zero_le _) (t_allows (d := d + 22) hq iv.2.2.2.1 iv.wB hm) (kI ?_)
    by_cases hl : lawful (aP A) x1 x2 x3 x4 x5 x6
    · have ea : aJoin A x1 x2 x3 x4 x5 x6 = (nI (aP A).1.length, doA A (xMv x1 x2 x3 x4 x5 x6)) := cI_t hl
      rw [tB_t hl, ea]
      obtain ⟨hlg, -⟩ := lawful_x hq.sm iv.wB hl
      refine b80_65 (fun r => absurd r (by decide)) (fun _ => ?_)
      refine b80_68 c1' rfl rfl c2'.1 (Nat.zero_le _) (Nat.zero_le _) (t_gplay (d := d + 21) (mm := xMv x1 x2 x3 x4 x5 x6) c2' ok.1 (by rw [mvV_x]; exact hm) (by omega) hlg) ?_
      rintro o h2 z2 ⟨rfl, rfl, hf2, H2⟩
      refine b80_79 (b80_83 ⟨rfl, Nat.le_refl _, fun x q1 q2 => (hf2 x (by omega)).trans (he1 x (by omega)), ?_⟩)
      exact H.gm ok (fun x q1 q2 => (hf2 x (by omega)).trans (he1 x q2)) H2 ⟨_, _, _, _, _, _, (hf2 _ (by omega)).trans hm⟩
    · have ea : aJoin A x1 x2 x3 x4 x5 x6 = (-1, A) := cI_f hl
      rw [tB_f hl, ea]
      refine b80_65 (fun _ => b80_82 (b80_83 ⟨rfl, Nat.le_refl _, fun x q1 q2 => he1 x (by omega), ?_⟩)) (fun r => absurd rfl r)
      exact H.gm ok (fun x q1 q2 => he1 x q2) c2' ⟨_, _, _, _, _, _, hm⟩
  refine b80_0 (P := qR (T + 1 + 27 + 5 * A.1.2.1) h1 z) c1 rfl e4 rfl (by omega) rfl c2.1 (by omega) (Nat.zero_le _) (Nat.zero_le _) ?_ (kR K)
  rw [hup_hup, hup_hup, hup_hup, hup_hup, hup_hup]
  rw [hh1] at nw ⊢
  exact nw
theorem c_moves (H : cls h z T A sol) (ok : abOK A) : ipC sc (d + 27) 81 [.ref T] h z 0 0 (cQ h T z (nI (mvs (aP A)).length) A sol) := by
  obtain ⟨im, c1, c2, c3, c4, -⟩ := id H
  have ht := ok.1.t23
  have iv := ok.1.iv (Nat.le_refl _)
  have hq : plIs h (T + 1 + 27 + 5 * A.1.2.1) 0 _ (aP A) := c2.2.2.2.2 _ (Nat.le_refl _)
  obtain ⟨y1, y2, y3, y4, y5, y6, e4⟩ := c4
  have hnp : (prs (aP A) cur0).length ≤ 10000 := by
    have h1 := prs_len (P := aP A)
    have h2 : (pC (aP A)).length ≤ 100 := iv.cap.1.2.2.2
    exact Nat.le_trans h1 (Nat.mul_le_mul h2 h2)
  refine ipC_mk [some (.ref T), none, none, none] rfl (Nat.le_of_ble_eq_true rfl) ?_
  refine c81_0 c1 rfl c2.1 (Nat.zero_le _) (Nat.zero_le _) (t_gnow (d := d + 25) c2 ht) (kR ?_)
  refine c81_7 c1 rfl e4 (Nat.zero_le _) (Nat.zero_le _) (t_rewind (d := d + 25) e4) ?_
  rintro o h2 z2 ⟨rfl, rfl, rfl⟩
  refine c81_17 ?_
  have loop : ∀ (n : Nat) (L : List Cur) (tot step : Nat) (h3 : HP) (e : hE), L.length ≤ n → step + L.length ≤ 10000 → tot + (mvp (aP A) L).length = (mvs (aP A)).length → h3 = hup h (T + 149) e → wk (aP A) h3 (T + 149) L (nI 0) → ip sc (ipC sc (d + 26)) 81 0 0 (cQ h T z2 (nI (mvs (aP A)).length) A sol) 19 [some (.ref T), some (.ref (T + 1 + 27 + 5 * A.1.2.1)), some (.int (nI tot)), some (.int (nI step))] [] h3 z2 0 0 := by
    intro n
    induction n with
    | zero =>
      intro L tot step h3 e hn hst htot he W
      have hL : L = [] := List.length_eq_zero_iff.mp (by omega)
      subst hL
      subst he
      have he1 : ∀ x, x ≠ T + 149 → hup h (T + 149) e x = h x := fun x q => hup_ne q rfl
      have hq1 : plIs (hup h (T + 149) e) (T + 1 + 27 + 5 * A.1.2.1) 0 _ (aP A) := hq.off fun x q1 q2 => he1 x (by omega)
      refine c81_19 (by omega) (fun r => absurd r (by simp only [List.length_nil] at hst; omega)) (fun _ => ?_)
      refine c81_25 ((he1 _ (by omega)).trans c1) rfl hq1.ob2 (Nat.zero_le _) (Nat.zero_le _) (t_nextPair2 (d := d + 22) hq1 iv.2.2.2.1 (by omega) W) ?_
      rintro o h3 z3 ⟨ez, t2, rfl, ⟨rfl, -⟩ | ⟨-, -, -, e3⟩⟩ <;> obtain rfl := ez.symm
      · refine c81_33 (sa_0 := 0) (by decide) (fun _ => c81_53 ?_) (fun r => absurd rfl r)
        have : tot = (mvs (aP A)).length := htot
        rw [this]
        have hh : mM (hup h (T + 149) e) (T + 149) t2 (nI 0) = mM h (T + 149) t2 (nI 0) := hup_hup
        rw [hh]
        exact ⟨rfl, Nat.le_refl _, fun x q1 q2 => hup_ne (by omega) rfl, H.gm ok (fun x q1 q2 => hup_ne q2 rfl) (c2.of ht fun x q1 q2 => hup_ne (by omega) rfl) ⟨_, _, _, _, _, _, hup_eq⟩⟩
      · cases e3
    | succ n ih =>
      intro L tot step h3 e hn hst htot he W
      subst he
      have he1 : ∀ x, x ≠ T + 149 → hup h (T + 149) e x = h x := fun x q => hup_ne q rfl
      have hq1 : plIs (hup h (T + 149) e) (T + 1 + 27 + 5 * A.1.2.1) 0 _ (aP A) := hq.off fun x q1 q2 => he1 x (by omega)
      refine c81_19 (by omega) (fun r => absurd r (by omega)) (fun _ => ?_)
      refine c81_25 ((he1 _ (by omega)).trans c1) rfl hq1.ob2 (Nat.zero_le _) (Nat.zero_le _) (t_nextPair2 (d := d + 22) hq1 iv.2.2.2.1 (by omega) W) ?_
      rintro o h3 z3 ⟨ez, t2, rfl, ⟨rfl, e3⟩ | ⟨rfl, e1, e2, e3⟩⟩ <;> obtain rfl := ez.symm
      · refine c81_33 (sa_0 := 0) (by decide) (fun _ => c81_53 ?_) (fun r => absurd rfl r)
        rw [e3] at htot
        have : tot = (mvs (aP A)).length := htot
        rw [this]
        have hh : mM (hup h (T + 149) e) (T + 149) t2 (nI 0) = mM h (T + 149) t2 (nI 0) := hup_hup
        rw [hh]
        exact ⟨rfl, Nat.le_refl _, fun x q1 q2 => hup_ne (by omega) rfl, H.gm ok (fun x q1 q2 => hup_ne q2 rfl) (c2.of ht fun x q1 q2 => hup_ne (by omega) rfl) ⟨_, _, _, _, _, _, hup_eq⟩⟩
      · refine c81_33 (sa_0 := 1) (by decide) (fun r => absurd r (by decide)) (fun _ => ?_)
        obtain ⟨f, u, i, v, j⟩ := t2
        obtain ⟨t1, t2, t3, t4, t5⟩ := of_decide_eq_true e1
        have eh : mM (hup h (T + 149) e) (T + 149) (f, u, i, v, j) (nI 0) = mM h (T + 149) (f, u, i, v, j) (nI 0) := hup_hup
        rw [eh]
        have he2 : ∀ x, x ≠ T + 149 → mM h (T + 149) (f, u, i, v, j) (nI 0) x = h x := fun x q => hup_ne q rfl
        have hq2 : plIs (mM h (T + 149) (f, u, i, v, j) (nI 0)) (T + 1 + 27 + 5 * A.1.2.1) 0 _ (aP A) := hq.off fun x q1 q2 => he2 x (by omega)
        refine c81_36 ((he2 _ (by omega)).trans c1) rfl hq2.ob2 (Nat.zero_le _) (Nat.zero_le _) (t_sides (d := d + 24) (i := i) (j := j) hq2 iv.wB mM_eq t1 t2 t4) (kI (c81_45 ?_))
        subst e3
        rw [mvp_cons, List.length_append, sdL_len] at htot
        simp only [List.length_cons] at hn hst
        exact ih (prs (aP A) (curN (f, u, i, v, j))) (tot + sidesP (aP A) (f, u, i, v, j)) (step + 1) _ _ (by omega) (by omega) (by omega) rfl (wk_at hq.sm e1 mM_eq)
  refine loop (prs (aP A) cur0).length (prs (aP A) cur0) 0 0 _ _ (Nat.le_refl _) (by omega) ?_ rfl wk_rewind
  rw [mvs_prs]
  omega
theorem c_move (H : cls h z T A sol) (ok : abOK A) (x : Int32) : ipC sc (d + 27) 82 [.ref T, .int x] h z 0 0 (cQ h T z (aMove A x).1 (aMove A x).2 sol) := by
  obtain ⟨im, c1, c2, c3, c4, -⟩ := id H
  have ht := ok.1.t23
  have iv := ok.1.iv (Nat.le_refl _)
  have hq : plIs h (T + 1 + 27 + 5 * A.1.2.1) 0 _ (aP A) := c2.2.2.2.2 _ (Nat.le_refl _)
  obtain ⟨y1, y2, y3, y4, y5, y6, e4⟩ := c4
  refine ipC_mk [some (.ref T), some (.int x)] rfl (Nat.le_of_ble_eq_true rfl) ?_
  refine b82_0 c1 rfl c2.1 (Nat.zero_le _) (Nat.zero_le _) (t_gnow (d := d + 25) c2 ht) (kR ?_)
  refine b82_7 c1 rfl hq.ob2 (Nat.zero_le _) (Nat.zero_le _) (t_pfind (d := d + 21) hq iv.2.2.2.1 iv.wB (by omega) e4 x) ?_
  rintro o h2 z2 ⟨rfl, ⟨rfl, hn, w1, w2, w3, w4, w5, w6, rfl⟩ | ⟨rfl, k, t, s, hk, rfl, hK, rfl⟩⟩
  · have ea : aMove A x = (-1, A) := by
      unfold aMove
      rw [aK_none hn]
    rw [ea]
    refine b82_15 (fun _ => b82_32 (b82_33 ⟨rfl, Nat.le_refl _, fun x q1 q2 => hup_ne (by omega) rfl, ?_⟩)) (fun r => absurd rfl r)
    exact H.gm ok (fun x q1 q2 => hup_ne q2 rfl) (c2.of ht fun x q1 q2 => hup_ne (by omega) rfl) ⟨_, _, _, _, _, _, hup_eq⟩
  · have ek := aK_some hk hK
    have ea : aMove A (nI k) = (nI (aP A).1.length, doA A (t, s)) := by
      unfold aMove
      rw [ek]
    rw [ea]
    have c2' : gmIs (mM h (T + 149) t (nI s)) (T + 1) A.1.1 A.1.2.1 A.1.2.2 := c2.of ht fun x q1 q2 => hup_ne (by omega) rfl
    refine b82_15 (fun r => absurd r (by decide)) (fun _ => ?_)
    refine b82_18 (hup_ne (by omega) c1) rfl rfl c2'.1 (Nat.zero_le _) (Nat.zero_le _) (t_gplay (d := d + 21) (mm := (t, s)) c2' ok.1 hup_eq (by omega) (aK_legal ek)) ?_
    rintro o h3 z3 ⟨rfl, rfl, hf3, H3⟩
    refine b82_29 (b82_33 ⟨rfl, Nat.le_refl _, fun x q1 q2 => (hf3 x (by omega)).trans (hup_ne (by omega) rfl), ?_⟩)
    exact H.gm ok (fun x q1 q2 => (hf3 x (by omega)).trans (hup_ne q2 rfl)) H3 ⟨_, _, _, _, _, _, (hf3 _ (by omega)).trans hup_eq⟩
theorem c_tell (H : cls h z T A sol) (ok : abOK A) (x w : Int32) : ipC sc (d + 27) 83 [.ref T, .int x, .int w] h z 0 0 (cQ h T z (aTell A x w) A sol) := by
  obtain ⟨im, c1, c2, c3, c4, -⟩ := id H
  have ht := ok.1.t23
  have iv := ok.1.iv (Nat.le_refl _)
  have hq : plIs h (T + 1 + 27 + 5 * A.1.2.1) 0 _ (aP A) := c2.2.2.2.2 _ (Nat.le_refl _)
  obtain ⟨y1, y2, y3, y4, y5, y6, e4⟩ := c4
  refine ipC_mk [some (.ref T), some (.int x), some (.int w)] rfl (Nat.le_of_ble_eq_true rfl) ?_
  refine b83_0 c1 rfl c2.1 (Nat.zero_le _) (Nat.zero_le _) (t_gnow (d := d + 25) c2 ht) (kR ?_)
  refine b83_7 c1 rfl hq.ob2 (Nat.zero_le _) (Nat.zero_le _) (t_pfind (d := d + 21) hq iv.2.2.2.1 iv.wB (by omega) e4 x) ?_
  rintro o h2 z2 ⟨rfl, ⟨rfl, hn, w1, w2, w3, w4, w5, w6, rfl⟩ | ⟨rfl, k, t, s, hk, rfl, hK, rfl⟩⟩
  · have ea : aTell A x w = -1 := by
      unfold aTell
      rw [aK_none hn]
    rw [ea]
    refine b83_15 (fun _ => b83_29 (b83_30 ⟨rfl, Nat.le_refl _, fun x q1 q2 => hup_ne (by omega) rfl, ?_⟩)) (fun r => absurd rfl r)
    exact H.gm ok (fun x q1 q2 => hup_ne q2 rfl) (c2.of ht fun x q1 q2 => hup_ne (by omega) rfl) ⟨_, _, _, _, _, _, hup_eq⟩
  · have ek := aK_some hk hK
    have ea : aTell A (nI k) w = mPt (t, s) w := by
      unfold aTell
      rw [ek]
    rw [ea]
    have hm : mM h (T + 149) t (nI s) (T + 149) = some (.inr (2, [.int (nI t.1), .int (nI t.2.1), .int (nI t.2.2.1), .int (nI t.2.2.2.1), .int (nI t.2.2.2.2), .int (nI s)])) := hup_eq
    refine b83_15 (fun r => absurd r (by decide)) (fun _ => ?_)
    refine b83_18 (hup_ne (by omega) c1) rfl hm (Nat.zero_le _) (Nat.zero_le _) (t_part (d := d + 25) hm w) (kI (b83_26 (b83_30 ⟨rfl, Nat.le_refl _, fun x q1 q2 => hup_ne (by omega) rfl, ?_⟩)))
    exact H.gm ok (fun x q1 q2 => hup_ne q2 rfl) (c2.of ht fun x q1 q2 => hup_ne (by omega) rfl) ⟨_, _, _, _, _, _, hup_eq⟩
theorem c_undo (H : cls h z T A sol) (ok : abOK A) : ipC sc (d + 27) 84 [.ref T] h z 0 0 (cQ h T z (aUndo A).1 (aUndo A).2 sol) := by
  obtain ⟨im, c1, c2, c3, c4, -⟩ := id H
  have ht := ok.1.t23
  refine ipC_mk [some (.ref T)] rfl (Nat.le_of_ble_eq_true rfl) ?_
  refine b84_0 c1 rfl c2.1 (Nat.zero_le _) (Nat.zero_le _) (t_gback (d := d + 25) c2 ht) ?_
  rintro o h2 z2 ⟨rfl, hf, ⟨h0, rfl, rfl⟩ | ⟨h0, rfl, H2⟩⟩
  · have ea : aUndo A = (-1, A) := if_pos h0
    rw [ea]
    exact b84_7 ⟨rfl, Nat.le_refl _, fun x q1 q2 => rfl, H⟩
  · have ea : aUndo A = (nI (A.1.2.1 - 1), ((A.1.1, A.1.2.1 - 1, A.1.2.2), A.2)) := if_neg (by omega)
    rw [ea]
    exact b84_7 ⟨rfl, Nat.le_refl _, fun x q1 q2 => hf x (by omega), H.gm ok (fun x q1 q2 => hf x (by omega)) H2 (c4.off (hf _ (by omega)))⟩
theorem c_made (H : cls h z T A sol) (ok : abOK A) (x w : Int32) : ipC sc (d + 27) 85 [.ref T, .int x, .int w] h z 0 0 (cQ h T z (aMade A x w) A sol) := by
  obtain ⟨im, c1, c2, c3, c4, -⟩ := id H
  have ht := ok.1.t23
  refine ipC_mono (cq_pure H) (ipC_mk [some (.ref T), some (.int x), some (.int w), none] rfl (Nat.le_of_ble_eq_true rfl) ?_)
  have fin : ∀ o0 o1 o2 o3 : Option Value, ¬ isN x A.1.2.1 → ip sc (ipC sc (d + 26)) 85 0 0 (qI (aMade A x w) h z) 33 [o0, o1, o2, o3] [] h z 0 0 := fun o0 o1 o2 o3 r => by
    rw [show aMade A x w = -1 from cI_f r]
    exact b85_33 (b85_34 ⟨rfl, rfl, rfl⟩)
  refine b85_0 c1 rfl c2.1 rfl (fun r => fin _ _ _ _ (isN_neg r (by omega))) (fun r => ?_)
  refine b85_12 c2.2.1.1 rfl (fun r2 => fin _ _ _ _ (isN_ge r2 (by omega))) (fun r2 => ?_)
  have hi := isN_of r r2 (by omega)
  have ea : aMade A x w = mPt (A.1.2.2 (uI x)) w := cI_t hi
  rw [ea]
  obtain ⟨k, hk, rfl⟩ := hi
  rw [uI_nI (by omega)]
  obtain ⟨r, k3, k4⟩ := c2.2.1.2.1
  have hm := c2.2.1.2.2.2 k hk
  obtain ⟨b, rfl⟩ := nI_all w
  exact c85_20 c2.2.1.1 rfl k3 (by omega) (by decide) (k4 k (by omega)) hm (Nat.zero_le _) (Nat.zero_le _) (t_part (d := d + 25) hm (nI b)) (kI (b85_30 (b85_34 ⟨rfl, rfl, rfl⟩)))
theorem c_again (H : cls h z T A sol) (ok : abOK A) (x : Int32) : ipC sc (d + 27) 90 [.ref T, .int x] h z 0 0 (cQ h T z (aAgain A x).1 (aAgain A x).2 sol) := by
  obtain ⟨im, c1, c2, c3, c4, c5, c6, c7, c8⟩ := id H
  have ht := ok.1.t23
  refine ipC_mk [some (.ref T), some (.int x)] rfl (Nat.le_of_ble_eq_true rfl) ?_
  by_cases e : isN x 4
  · have e1 : aAgain A x = (match A.2 (uI x) with
      | none => (nI 0, A)
      | some G => (nI 1, (G, A.2))) := cI_t e
    rw [e1]
    obtain ⟨k, hk, rfl⟩ := e
    rw [uI_nI (by omega)]
    refine c90_0 (by omega) (fun r => absurd r (by omega)) (fun _ => c90_4 (by omega) (fun r => absurd r (by omega)) (fun _ => ?_))
    have h7 := c7 k hk
    cases hi : im k with
    | none =>
      rw [hi] at h7
      cases hg : A.2 k with
      | none => exact c90_9n c1 rfl c3 (by omega) (by decide) hi (c90_18 (cq_pure H _ _ _ ⟨rfl, rfl, rfl⟩))
      | some G =>
        rw [hg] at h7
        exact h7.elim
    | some B =>
      rw [hi] at h7
      cases hg : A.2 k with
      | none =>
        rw [hg] at h7
        exact h7.elim
      | some G =>
        rw [hg] at h7
        obtain ⟨n1, n2, n3⟩ := h7
        refine c90_9 c1 rfl c3 (by omega) (by decide) hi ?_
        refine c90_20 c1 rfl rfl c3 (by omega) (by decide) hi c2.1 (Nat.zero_le _) (Nat.zero_le _) (t_greplay (d := d + 20) c2 n1 (ok.2 k G hk hg) (by omega)) ?_
        rintro o h2 z2 ⟨rfl, rfl, hf, H2⟩
        exact c90_33 ⟨rfl, Nat.le_refl _, fun x q1 q2 => hf x (by omega), H.gm ok (fun x q1 q2 => hf x (by omega)) H2 (c4.off (hf _ (by omega)))⟩
  · have ea : aAgain A x = (nI 0, A) := cI_f e
    rw [ea]
    have fin : ∀ o0 o1 : Option Value, ip sc (ipC sc (d + 26)) 90 0 0 (cQ h T z (nI 0) A sol) 18 [o0, o1] [] h z 0 0 := fun o0 o1 => c90_18 (cq_pure H _ _ _ ⟨rfl, rfl, rfl⟩)
    exact b90_0 (fun _ => fin _ _) (fun r => b90_4 (fun _ => fin _ _) (fun r2 => absurd (isN_of (n := 4) r r2 (by decide)) e))
end CLS
